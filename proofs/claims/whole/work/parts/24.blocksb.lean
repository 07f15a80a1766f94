theorem b_45_0 {sx : Int → Int} {L : Nat} {c0 : Nat} {c1 : Nat} {M : Mem} {Q : Option AV → Mem → Prop} (h0 : isRb c0) (h1 : isCk c1)
    (h : Rn sx L K0 R0 45 1 [vR (c0 + 2), vR (c1 + 2), vI 0, vI 0] [] M Q) : Rn sx L K0 R0 45 0 [vR (c0 + 2), vR (c1 + 2), vU, vU] [] M Q := by
  refine Rn_w (by decide) ?_
  show wpc sx L K0 R0 45 [(0, 1, .iconst 0, []), (1, 1, .istore_n 2, []), (2, 1, .iconst 0, []), (3, 1, .istore_n 3, [])] 1 [vR (c0 + 2), vR (c1 + 2), vU, vU] [] M Q
  simp only [w_iconst, w_is_2 (c2R _), w_is_3 (c2I _), w_fall, true_and, and_true, true_or, or_true]
  exact h
set_option maxRecDepth 8192 in
theorem b_45_1 {sx : Int → Int} {L : Nat} {c0 : Nat} {c1 : Nat} {x2 : Int} {x3 : Int} {M : Mem} {Q : Option AV → Mem → Prop} (h0 : isRb c0) (h1 : isCk c1) (hj0 : 0 ≤ x3 ∧ x3 < 8)
    (h : ((8 : Int) ≤ x3 → Rn sx L K0 R0 45 3 [vR (c0 + 2), vR (c1 + 2), vI x2, vI x3] [] M Q) ∧ (¬ ((8 : Int) ≤ x3) → ((0 : Int) ≤ M c1 13 ∧ x3 ≤ (30 : Int)) ∧ ((iAnd ((M c1 13) / 2 ^ (x3).toNat) 1 = (0 : Int) → Rn sx L K0 R0 45 2 [vR (c0 + 2), vR (c1 + 2), vI x2, vI x3] [] M Q) ∧ (¬ (iAnd ((M c1 13) / 2 ^ (x3).toNat) 1 = (0 : Int)) → (M (ckA c0 x3) 15 ≤ M c1 15 → Rn sx L K0 R0 45 2 [vR (c0 + 2), vR (c1 + 2), vI x2, vI x3] [] M Q) ∧ (¬ (M (ckA c0 x3) 15 ≤ M c1 15) → Rn sx L K0 R0 45 2 [vR (c0 + 2), vR (c1 + 2), vI 1, vI x3] [] (mset M (ckA c0 x3) 15 (M c1 15)) Q))))) : Rn sx L K0 R0 45 1 [vR (c0 + 2), vR (c1 + 2), vI x2, vI x3] [] M Q := by
  refine Rn_w (by decide) ?_
  show wpc sx L K0 R0 45 [(4, 1, .iload_n 3, []), (5, 2, .bipush 8, []), (7, 3, .if_icmp .ge 51, [3]), (10, 1, .aload_n 1, []), (11, 3, .getfield 208, [0, 13, 399]), (14, 1, .iload_n 3, []), (15, 1, .ishr, []), (16, 1, .iconst 1, []), (17, 1, .iand, []), (18, 3, .ifCond .eq 34, [2]), (21, 1, .aload_n 0, []), (22, 3, .getfield 11, [3, 1, 445]), (25, 1, .iload_n 3, []), (26, 1, .aaload, []), (27, 3, .getfield 186, [0, 15, 402]), (30, 1, .aload_n 1, []), (31, 3, .getfield 186, [0, 15, 402]), (34, 3, .if_icmp .le 18, [2]), (37, 1, .aload_n 0, []), (38, 3, .getfield 11, [3, 1, 445]), (41, 1, .iload_n 3, []), (42, 1, .aaload, []), (43, 1, .aload_n 1, []), (44, 3, .getfield 186, [0, 15, 402]), (47, 3, .putfield 186, [0, 15, 402]), (50, 1, .iconst 1, []), (51, 1, .istore_n 2, [])] 2 [vR (c0 + 2), vR (c1 + 2), vI x2, vI x3] [] M Q
  simp only [w_il_3, w_bipush, w_ic_ge, w_al_1, w_gf_0_13, kin_T (kck h1), w_ishr, w_iconst, w_iand, w_if_eq, w_al_0, w_gf_3_1, kin_T (krb h0), rrb1 h0, w_aald, rcks h0 hj0.1 hj0.2, arq_T ((krb1 h0)) ⟨by decide, by decide⟩, hj0.1, (show x3 < ((8 : Nat) : Int) from hj0.2), w_gf_0_15, kin_T (kck (isCk_A h0 hj0.1 hj0.2)), w_ic_le, w_pf_0_15, w_is_2 (c2R _), w_fall, true_and, and_true, true_or, or_true]
  exact h
theorem b_45_2 {sx : Int → Int} {L : Nat} {c0 : Nat} {c1 : Nat} {x2 : Int} {x3 : Int} {M : Mem} {Q : Option AV → Mem → Prop} (h0 : isRb c0) (h1 : isCk c1)
    (h : inR (x3 + 1) ∧ (Rn sx L K0 R0 45 1 [vR (c0 + 2), vR (c1 + 2), vI x2, vI (x3 + 1)] [] M Q)) : Rn sx L K0 R0 45 2 [vR (c0 + 2), vR (c1 + 2), vI x2, vI x3] [] M Q := by
  refine Rn_w (by decide) ?_
  show wpc sx L K0 R0 45 [(52, 3, .iinc 3 1, []), (55, 3, .goto (-51), [1])] 0 [vR (c0 + 2), vR (c1 + 2), vI x2, vI x3] [] M Q
  simp only [w_inc_3 (c2I _), w_goto, true_and, and_true, true_or, or_true]
  exact h
theorem b_45_3 {sx : Int → Int} {L : Nat} {c0 : Nat} {c1 : Nat} {x2 : Int} {x3 : Int} {M : Mem} {Q : Option AV → Mem → Prop} (h0 : isRb c0) (h1 : isCk c1)
    (h : (x2 = 0 ∨ x2 = 1) ∧ (Q (some (vI x2)) M)) : Rn sx L K0 R0 45 3 [vR (c0 + 2), vR (c1 + 2), vI x2, vI x3] [] M Q := by
  refine Rn_w (by decide) ?_
  show wpc sx L K0 R0 45 [(58, 1, .iload_n 2, []), (59, 1, .ireturn, [])] 0 [vR (c0 + 2), vR (c1 + 2), vI x2, vI x3] [] M Q
  simp only [w_il_2, w_ret2 rk_45, true_and, and_true, true_or, or_true]
  exact h
theorem b_46_0 {sx : Int → Int} {L : Nat} {c0 : Nat} {x1 : Int} {x2 : Int} {M : Mem} {Q : Option AV → Mem → Prop} (h0 : isRb c0) (hj0 : 0 ≤ x1 ∧ x1 < 8)
    (h : (x2 ≤ M (ckA c0 x1) 9 → Rn sx L K0 R0 46 1 [vR (c0 + 2), vI x1, vI x2, vR (ckA c0 x1 + 2)] [] M Q) ∧ (¬ (x2 ≤ M (ckA c0 x1) 9) → Rn sx L K0 R0 46 1 [vR (c0 + 2), vI x1, vI x2, vR (ckA c0 x1 + 2)] [] (mset M c0 17 1) Q)) : Rn sx L K0 R0 46 0 [vR (c0 + 2), vI x1, vI x2, vU] [] M Q := by
  refine Rn_w (by decide) ?_
  show wpc sx L K0 R0 46 [(0, 1, .aload_n 0, []), (1, 3, .getfield 11, [3, 1, 445]), (4, 1, .iload_n 1, []), (5, 1, .aaload, []), (6, 1, .astore_n 3, []), (7, 1, .iload_n 2, []), (8, 1, .aload_n 3, []), (9, 3, .getfield 215, [0, 9, 393]), (12, 3, .if_icmp .le 8, [1]), (15, 1, .aload_n 0, []), (16, 1, .iconst 1, []), (17, 3, .putfield 61, [3, 17, 468])] 1 [vR (c0 + 2), vI x1, vI x2, vU] [] M Q
  simp only [w_al_0, w_gf_3_1, kin_T (krb h0), rrb1 h0, w_il_1, w_aald, rcks h0 hj0.1 hj0.2, arq_T ((krb1 h0)) ⟨by decide, by decide⟩, hj0.1, (show x1 < ((8 : Nat) : Int) from hj0.2), w_as_3 (c2I _), w_il_2, w_al_3, w_gf_0_9, kin_T (kck (isCk_A h0 hj0.1 hj0.2)), w_ic_le, w_iconst, w_pf_3_17, b01_1, w_fall, true_and, and_true, true_or, or_true]
  exact h
theorem b_46_1 {sx : Int → Int} {L : Nat} {c0 : Nat} {x1 : Int} {x2 : Int} {c3 : Nat} {M : Mem} {Q : Option AV → Mem → Prop} (h0 : isRb c0) (h3 : isCk c3)
    (h : Mq sx L K0 R0 7 [vR (c3 + 2), vI x2] M (fun rv M1 => rv = none ∧ (((0 : Int) ≤ (1 : Int) ∧ (0 : Int) ≤ x1 ∧ x1 ≤ (30 : Int) ∧ (1 : Int) * 2 ^ (x1).toNat ≤ (2147483647 : Int)) ∧ (Q none (mset M1 c0 11 (iAnd (M1 c0 11) (iXor ((1 : Int) * 2 ^ (x1).toNat) (-1)))))))) : Rn sx L K0 R0 46 1 [vR (c0 + 2), vI x1, vI x2, vR (c3 + 2)] [] M Q := by
  refine Rn_w (by decide) ?_
  show wpc sx L K0 R0 46 [(20, 1, .aload_n 3, []), (21, 1, .iload_n 2, []), (22, 3, .invokevirtual 218, [7, 809, 1]), (25, 1, .aload_n 0, []), (26, 1, .dup, []), (27, 3, .getfield 136, [3, 11, 459]), (30, 1, .iconst 1, []), (31, 1, .iload_n 1, []), (32, 1, .ishl, []), (33, 1, .iconst (-1), []), (34, 1, .ixor, []), (35, 1, .iand, []), (36, 3, .putfield 136, [3, 11, 459]), (39, 1, .return_, [])] 0 [vR (c0 + 2), vI x1, vI x2, vR (c3 + 2)] [] M Q
  simp only [w_al_3, w_il_2, w_ivv_1 (c2I _) cs0, mk_7, kin_T (kck h3), rk_7, rvk0, List.nil_append, w_al_0, w_dup (c2R _), w_gf_3_11, kin_T (krb h0), w_iconst, w_il_1, w_ishl, w_ixor, w_iand, w_pf_3_11, w_ret0 rk_46, true_and, and_true, true_or, or_true]
  exact h
theorem b_47_0 {sx : Int → Int} {L : Nat} {c0 : Nat} {x1 : Int} {M : Mem} {Q : Option AV → Mem → Prop} (h0 : isRb c0)
    (h : Mq sx L K0 R0 128 [vI x1] M (fun rv M1 => ∃ r1, rv = some (vI r1) ∧ ((¬ r1 = (0 : Int) → Rn sx L K0 R0 47 1 [vR (c0 + 2), vI x1] [] M1 Q) ∧ (¬ (¬ r1 = (0 : Int)) → Q none M1)))) : Rn sx L K0 R0 47 0 [vR (c0 + 2), vI x1] [] M Q := by
  refine Rn_w (by decide) ?_
  show wpc sx L K0 R0 47 [(0, 1, .iload_n 1, []), (1, 3, .invokestatic 221, [128, 817, 1]), (4, 3, .ifCond .ne 4, [1]), (7, 1, .return_, [])] 0 [vR (c0 + 2), vI x1] [] M Q
  simp only [w_il_1, w_ivs_1 (c2I _) cs0, rk_128, rvk2, List.cons_append, List.nil_append, w_if_ne, w_ret0 rk_47, true_and, and_true, true_or, or_true]
  exact h
set_option maxRecDepth 8192 in
theorem b_47_1 {sx : Int → Int} {L : Nat} {c0 : Nat} {x1 : Int} {M : Mem} {Q : Option AV → Mem → Prop} (h0 : isRb c0)
    (h : ((0 : Int) ≤ x1 ∧ x1 < (120 : Int)) ∧ (((0 : Int) ≤ x1 ∧ x1 < (120 : Int)) ∧ (((0 : Int) ≤ x1 ∧ x1 < (120 : Int)) ∧ ((¬ (mset (mset (mset M (c0 + 2) x1 (M c0 12)) (c0 + 3) x1 ((mset M (c0 + 2) x1 (M c0 12)) c0 13)) (c0 + 4) x1 ((mset (mset M (c0 + 2) x1 (M c0 12)) (c0 + 3) x1 ((mset M (c0 + 2) x1 (M c0 12)) c0 13)) c0 11)) c0 15 = (-1 : Int) → Rn sx L K0 R0 47 2 [vR (c0 + 2), vI x1] [] (mset (mset (mset M (c0 + 2) x1 (M c0 12)) (c0 + 3) x1 ((mset M (c0 + 2) x1 (M c0 12)) c0 13)) (c0 + 4) x1 ((mset (mset M (c0 + 2) x1 (M c0 12)) (c0 + 3) x1 ((mset M (c0 + 2) x1 (M c0 12)) c0 13)) c0 11)) Q) ∧ (¬ (¬ (mset (mset (mset M (c0 + 2) x1 (M c0 12)) (c0 + 3) x1 ((mset M (c0 + 2) x1 (M c0 12)) c0 13)) (c0 + 4) x1 ((mset (mset M (c0 + 2) x1 (M c0 12)) (c0 + 3) x1 ((mset M (c0 + 2) x1 (M c0 12)) c0 13)) c0 11)) c0 15 = (-1 : Int)) → inR (((mset (mset (mset M (c0 + 2) x1 (M c0 12)) (c0 + 3) x1 ((mset M (c0 + 2) x1 (M c0 12)) c0 13)) (c0 + 4) x1 ((mset (mset M (c0 + 2) x1 (M c0 12)) (c0 + 3) x1 ((mset M (c0 + 2) x1 (M c0 12)) c0 13)) c0 11)) c0 13) - 1) ∧ ((iAnd ((mset (mset (mset M (c0 + 2) x1 (M c0 12)) (c0 + 3) x1 ((mset M (c0 + 2) x1 (M c0 12)) c0 13)) (c0 + 4) x1 ((mset (mset M (c0 + 2) x1 (M c0 12)) (c0 + 3) x1 ((mset M (c0 + 2) x1 (M c0 12)) c0 13)) c0 11)) c0 13) (((mset (mset (mset M (c0 + 2) x1 (M c0 12)) (c0 + 3) x1 ((mset M (c0 + 2) x1 (M c0 12)) c0 13)) (c0 + 4) x1 ((mset (mset M (c0 + 2) x1 (M c0 12)) (c0 + 3) x1 ((mset M (c0 + 2) x1 (M c0 12)) c0 13)) c0 11)) c0 13) - 1) = (0 : Int) → Rn sx L K0 R0 47 2 [vR (c0 + 2), vI x1] [] (mset (mset (mset M (c0 + 2) x1 (M c0 12)) (c0 + 3) x1 ((mset M (c0 + 2) x1 (M c0 12)) c0 13)) (c0 + 4) x1 ((mset (mset M (c0 + 2) x1 (M c0 12)) (c0 + 3) x1 ((mset M (c0 + 2) x1 (M c0 12)) c0 13)) c0 11)) Q) ∧ (¬ (iAnd ((mset (mset (mset M (c0 + 2) x1 (M c0 12)) (c0 + 3) x1 ((mset M (c0 + 2) x1 (M c0 12)) c0 13)) (c0 + 4) x1 ((mset (mset M (c0 + 2) x1 (M c0 12)) (c0 + 3) x1 ((mset M (c0 + 2) x1 (M c0 12)) c0 13)) c0 11)) c0 13) (((mset (mset (mset M (c0 + 2) x1 (M c0 12)) (c0 + 3) x1 ((mset M (c0 + 2) x1 (M c0 12)) c0 13)) (c0 + 4) x1 ((mset (mset M (c0 + 2) x1 (M c0 12)) (c0 + 3) x1 ((mset M (c0 + 2) x1 (M c0 12)) c0 13)) c0 11)) c0 13) - 1) = (0 : Int)) → Mq sx L K0 R0 48 [vR (c0 + 2), vI x1] (mset (mset (mset M (c0 + 2) x1 (M c0 12)) (c0 + 3) x1 ((mset M (c0 + 2) x1 (M c0 12)) c0 13)) (c0 + 4) x1 ((mset (mset M (c0 + 2) x1 (M c0 12)) (c0 + 3) x1 ((mset M (c0 + 2) x1 (M c0 12)) c0 13)) c0 11)) (fun rv M1 => rv = none ∧ (Rn sx L K0 R0 47 2 [vR (c0 + 2), vI x1] [] M1 Q))))))))) : Rn sx L K0 R0 47 1 [vR (c0 + 2), vI x1] [] M Q := by
  refine Rn_w (by decide) ?_
  show wpc sx L K0 R0 47 [(8, 1, .aload_n 0, []), (9, 3, .getfield 17, [3, 2, 448]), (12, 1, .iload_n 1, []), (13, 1, .aload_n 0, []), (14, 3, .getfield 146, [3, 12, 460]), (17, 1, .iastore, []), (18, 1, .aload_n 0, []), (19, 3, .getfield 21, [3, 3, 450]), (22, 1, .iload_n 1, []), (23, 1, .aload_n 0, []), (24, 3, .getfield 149, [3, 13, 461]), (27, 1, .iastore, []), (28, 1, .aload_n 0, []), (29, 3, .getfield 24, [3, 4, 452]), (32, 1, .iload_n 1, []), (33, 1, .aload_n 0, []), (34, 3, .getfield 136, [3, 11, 459]), (37, 1, .iastore, []), (38, 1, .aload_n 0, []), (39, 3, .getfield 30, [3, 15, 463]), (42, 1, .iconst (-1), []), (43, 3, .if_icmp .ne 22, [2]), (46, 1, .aload_n 0, []), (47, 3, .getfield 149, [3, 13, 461]), (50, 1, .aload_n 0, []), (51, 3, .getfield 149, [3, 13, 461]), (54, 1, .iconst 1, []), (55, 1, .isub, []), (56, 1, .iand, []), (57, 3, .ifCond .eq 8, [2]), (60, 1, .aload_n 0, []), (61, 1, .iload_n 1, []), (62, 3, .invokevirtual 224, [48, 818, 1])] 2 [vR (c0 + 2), vI x1] [] M Q
  simp only [w_al_0, w_gf_3_2, kin_T (krb h0), rrb2 h0, w_il_1, w_gf_3_12, w_iast, arr_T ((krb2 h0)), w_gf_3_3, rrb3 h0, w_gf_3_13, arr_T ((krb3 h0)), w_gf_3_4, rrb4 h0, w_gf_3_11, arr_T ((krb4 h0)), w_gf_3_15, w_iconst, w_ic_ne, w_isub, w_iand, w_if_eq, w_ivv_1 (c2I _) cs0, mk_48, rk_48, rvk0, List.nil_append, w_fall, true_and, and_true, true_or, or_true]
  exact h
theorem b_47_2 {sx : Int → Int} {L : Nat} {c0 : Nat} {x1 : Int} {M : Mem} {Q : Option AV → Mem → Prop} (h0 : isRb c0)
    (h : Q none M) : Rn sx L K0 R0 47 2 [vR (c0 + 2), vI x1] [] M Q := by
  refine Rn_w (by decide) ?_
  show wpc sx L K0 R0 47 [(65, 1, .return_, [])] 0 [vR (c0 + 2), vI x1] [] M Q
  simp only [w_ret0 rk_47, true_and, and_true, true_or, or_true]
  exact h
theorem b_48_0 {sx : Int → Int} {L : Nat} {c0 : Nat} {x1 : Int} {M : Mem} {Q : Option AV → Mem → Prop} (h0 : isRb c0)
    (h : Rn sx L K0 R0 48 1 [vR (c0 + 2), vI x1, vI 0, vU] [] M Q) : Rn sx L K0 R0 48 0 [vR (c0 + 2), vI x1, vU, vU] [] M Q := by
  refine Rn_w (by decide) ?_
  show wpc sx L K0 R0 48 [(0, 1, .iconst 0, []), (1, 1, .istore_n 2, [])] 1 [vR (c0 + 2), vI x1, vU, vU] [] M Q
  simp only [w_iconst, w_is_2 (c2I _), w_fall, true_and, and_true, true_or, or_true]
  exact h
theorem b_48_1 {sx : Int → Int} {L : Nat} {c0 : Nat} {x1 : Int} {x2 : Int} {M : Mem} {Q : Option AV → Mem → Prop} (h0 : isRb c0) (hj0 : 0 ≤ x2 ∧ x2 < 8)
    (h : ((8 : Int) ≤ x2 → Rn sx L K0 R0 48 4 [vR (c0 + 2), vI x1, vI x2, vU] [] M Q) ∧ (¬ ((8 : Int) ≤ x2) → ((0 : Int) ≤ M c0 13 ∧ x2 ≤ (30 : Int)) ∧ ((iAnd ((M c0 13) / 2 ^ (x2).toNat) 1 = (0 : Int) → Rn sx L K0 R0 48 2 [vR (c0 + 2), vI x1, vI x2, vU] [vR (ckA c0 x2 + 2)] M Q) ∧ (¬ (iAnd ((M c0 13) / 2 ^ (x2).toNat) 1 = (0 : Int)) → Rn sx L K0 R0 48 3 [vR (c0 + 2), vI x1, vI x2, vU] [vI (M (ckA c0 x2) 13), vR (ckA c0 x2 + 2)] M Q)))) : Rn sx L K0 R0 48 1 [vR (c0 + 2), vI x1, vI x2, vU] [] M Q := by
  refine Rn_w (by decide) ?_
  show wpc sx L K0 R0 48 [(2, 1, .iload_n 2, []), (3, 2, .bipush 8, []), (5, 3, .if_icmp .ge 42, [4]), (8, 1, .aload_n 0, []), (9, 3, .getfield 11, [3, 1, 445]), (12, 1, .iload_n 2, []), (13, 1, .aaload, []), (14, 1, .aload_n 0, []), (15, 3, .getfield 149, [3, 13, 461]), (18, 1, .iload_n 2, []), (19, 1, .ishr, []), (20, 1, .iconst 1, []), (21, 1, .iand, []), (22, 3, .ifCond .eq 15, [2]), (25, 1, .aload_n 0, []), (26, 3, .getfield 11, [3, 1, 445]), (29, 1, .iload_n 2, []), (30, 1, .aaload, []), (31, 3, .getfield 208, [0, 13, 399]), (34, 3, .goto 4, [3])] 0 [vR (c0 + 2), vI x1, vI x2, vU] [] M Q
  simp only [w_il_2, w_bipush, w_ic_ge, w_al_0, w_gf_3_1, kin_T (krb h0), rrb1 h0, w_aald, rcks h0 hj0.1 hj0.2, arq_T ((krb1 h0)) ⟨by decide, by decide⟩, hj0.1, (show x2 < ((8 : Nat) : Int) from hj0.2), w_gf_3_13, w_ishr, w_iconst, w_iand, w_if_eq, w_gf_0_13, kin_T (kck (isCk_A h0 hj0.1 hj0.2)), w_goto, true_and, and_true, true_or, or_true]
  exact h
theorem b_48_2 {sx : Int → Int} {L : Nat} {c0 : Nat} {x1 : Int} {x2 : Int} {d0 : Nat} {M : Mem} {Q : Option AV → Mem → Prop} (h0 : isRb c0) (k0 : isCk d0)
    (h : Rn sx L K0 R0 48 3 [vR (c0 + 2), vI x1, vI x2, vU] [vI 0, vR (d0 + 2)] M Q) : Rn sx L K0 R0 48 2 [vR (c0 + 2), vI x1, vI x2, vU] [vR (d0 + 2)] M Q := by
  refine Rn_w (by decide) ?_
  show wpc sx L K0 R0 48 [(37, 1, .iconst 0, [])] 3 [vR (c0 + 2), vI x1, vI x2, vU] [vR (d0 + 2)] M Q
  simp only [w_iconst, w_fall, true_and, and_true, true_or, or_true]
  exact h
theorem b_48_3 {sx : Int → Int} {L : Nat} {c0 : Nat} {x1 : Int} {x2 : Int} {d0 : Nat} {y1 : Int} {M : Mem} {Q : Option AV → Mem → Prop} (h0 : isRb c0) (k0 : isCk d0)
    (h : inR (x2 + 1) ∧ (Rn sx L K0 R0 48 1 [vR (c0 + 2), vI x1, vI (x2 + 1), vU] [] (mset M d0 14 y1) Q)) : Rn sx L K0 R0 48 3 [vR (c0 + 2), vI x1, vI x2, vU] [vI y1, vR (d0 + 2)] M Q := by
  refine Rn_w (by decide) ?_
  show wpc sx L K0 R0 48 [(38, 3, .putfield 227, [0, 14, 400]), (41, 3, .iinc 2 1, []), (44, 3, .goto (-42), [1])] 0 [vR (c0 + 2), vI x1, vI x2, vU] [vI y1, vR (d0 + 2)] M Q
  simp only [w_pf_0_14, kin_T (kck k0), w_inc_2 (c2I _), w_goto, true_and, and_true, true_or, or_true]
  exact h
theorem b_48_4 {sx : Int → Int} {L : Nat} {c0 : Nat} {x1 : Int} {x2 : Int} {M : Mem} {Q : Option AV → Mem → Prop} (h0 : isRb c0)
    (h : Rn sx L K0 R0 48 5 [vR (c0 + 2), vI x1, vI 0, vU] [] M Q) : Rn sx L K0 R0 48 4 [vR (c0 + 2), vI x1, vI x2, vU] [] M Q := by
  refine Rn_w (by decide) ?_
  show wpc sx L K0 R0 48 [(47, 1, .iconst 0, []), (48, 1, .istore_n 2, [])] 5 [vR (c0 + 2), vI x1, vI x2, vU] [] M Q
  simp only [w_iconst, w_is_2 (c2I _), w_fall, true_and, and_true, true_or, or_true]
  exact h
theorem b_48_5 {sx : Int → Int} {L : Nat} {c0 : Nat} {x1 : Int} {x2 : Int} {u3 : AV} {M : Mem} {Q : Option AV → Mem → Prop} (h0 : isRb c0) (hu3 : cat2 u3 = false)
    (h : ((8 : Int) ≤ x2 → Rn sx L K0 R0 48 9 [vR (c0 + 2), vI x1, vI x2, u3] [] M Q) ∧ (¬ ((8 : Int) ≤ x2) → Rn sx L K0 R0 48 6 [vR (c0 + 2), vI x1, vI x2, vI 0] [] M Q)) : Rn sx L K0 R0 48 5 [vR (c0 + 2), vI x1, vI x2, u3] [] M Q := by
  refine Rn_w (by decide) ?_
  show wpc sx L K0 R0 48 [(49, 1, .iload_n 2, []), (50, 2, .bipush 8, []), (52, 3, .if_icmp .ge 62, [9]), (55, 1, .iconst 0, []), (56, 1, .istore_n 3, [])] 6 [vR (c0 + 2), vI x1, vI x2, u3] [] M Q
  simp only [w_il_2, w_bipush, w_ic_ge, w_iconst, w_is_3 (c2I _), w_fall, true_and, and_true, true_or, or_true]
  exact h
set_option maxRecDepth 8192 in
theorem b_48_6 {sx : Int → Int} {L : Nat} {c0 : Nat} {x1 : Int} {x2 : Int} {x3 : Int} {M : Mem} {Q : Option AV → Mem → Prop} (h0 : isRb c0) (hj0 : 0 ≤ x3 ∧ x3 < 8) (hj1 : 0 ≤ x2 ∧ x2 < 8)
    (h : ((8 : Int) ≤ x3 → Rn sx L K0 R0 48 8 [vR (c0 + 2), vI x1, vI x2, vI x3] [] M Q) ∧ (¬ ((8 : Int) ≤ x3) → ((0 : Int) ≤ M (ckA c0 x3) 14 ∧ x2 ≤ (30 : Int)) ∧ ((iAnd ((M (ckA c0 x3) 14) / 2 ^ (x2).toNat) 1 = (0 : Int) → Rn sx L K0 R0 48 7 [vR (c0 + 2), vI x1, vI x2, vI x3] [] M Q) ∧ (¬ (iAnd ((M (ckA c0 x3) 14) / 2 ^ (x2).toNat) 1 = (0 : Int)) → Rn sx L K0 R0 48 7 [vR (c0 + 2), vI x1, vI x2, vI x3] [] (mset M (ckA c0 x3) 14 (iOr (M (ckA c0 x3) 14) (M (ckA c0 x2) 14))) Q)))) : Rn sx L K0 R0 48 6 [vR (c0 + 2), vI x1, vI x2, vI x3] [] M Q := by
  refine Rn_w (by decide) ?_
  show wpc sx L K0 R0 48 [(57, 1, .iload_n 3, []), (58, 2, .bipush 8, []), (60, 3, .if_icmp .ge 48, [8]), (63, 1, .aload_n 0, []), (64, 3, .getfield 11, [3, 1, 445]), (67, 1, .iload_n 3, []), (68, 1, .aaload, []), (69, 3, .getfield 227, [0, 14, 400]), (72, 1, .iload_n 2, []), (73, 1, .ishr, []), (74, 1, .iconst 1, []), (75, 1, .iand, []), (76, 3, .ifCond .eq 26, [7]), (79, 1, .aload_n 0, []), (80, 3, .getfield 11, [3, 1, 445]), (83, 1, .iload_n 3, []), (84, 1, .aaload, []), (85, 1, .dup, []), (86, 3, .getfield 227, [0, 14, 400]), (89, 1, .aload_n 0, []), (90, 3, .getfield 11, [3, 1, 445]), (93, 1, .iload_n 2, []), (94, 1, .aaload, []), (95, 3, .getfield 227, [0, 14, 400]), (98, 1, .ior, []), (99, 3, .putfield 227, [0, 14, 400])] 7 [vR (c0 + 2), vI x1, vI x2, vI x3] [] M Q
  simp only [w_il_3, w_bipush, w_ic_ge, w_al_0, w_gf_3_1, kin_T (krb h0), rrb1 h0, w_aald, rcks h0 hj0.1 hj0.2, arq_T ((krb1 h0)) ⟨by decide, by decide⟩, hj0.1, (show x3 < ((8 : Nat) : Int) from hj0.2), w_gf_0_14, kin_T (kck (isCk_A h0 hj0.1 hj0.2)), w_il_2, w_ishr, w_iconst, w_iand, w_if_eq, w_dup (c2R _), rcks h0 hj1.1 hj1.2, hj1.1, (show x2 < ((8 : Nat) : Int) from hj1.2), kin_T (kck (isCk_A h0 hj1.1 hj1.2)), w_ior, w_pf_0_14, w_fall, true_and, and_true, true_or, or_true]
  exact h
theorem b_48_7 {sx : Int → Int} {L : Nat} {c0 : Nat} {x1 : Int} {x2 : Int} {x3 : Int} {M : Mem} {Q : Option AV → Mem → Prop} (h0 : isRb c0)
    (h : inR (x3 + 1) ∧ (Rn sx L K0 R0 48 6 [vR (c0 + 2), vI x1, vI x2, vI (x3 + 1)] [] M Q)) : Rn sx L K0 R0 48 7 [vR (c0 + 2), vI x1, vI x2, vI x3] [] M Q := by
  refine Rn_w (by decide) ?_
  show wpc sx L K0 R0 48 [(102, 3, .iinc 3 1, []), (105, 3, .goto (-48), [6])] 0 [vR (c0 + 2), vI x1, vI x2, vI x3] [] M Q
  simp only [w_inc_3 (c2I _), w_goto, true_and, and_true, true_or, or_true]
  exact h
theorem b_48_8 {sx : Int → Int} {L : Nat} {c0 : Nat} {x1 : Int} {x2 : Int} {x3 : Int} {M : Mem} {Q : Option AV → Mem → Prop} (h0 : isRb c0)
    (h : inR (x2 + 1) ∧ (Rn sx L K0 R0 48 5 [vR (c0 + 2), vI x1, vI (x2 + 1), vI x3] [] M Q)) : Rn sx L K0 R0 48 8 [vR (c0 + 2), vI x1, vI x2, vI x3] [] M Q := by
  refine Rn_w (by decide) ?_
  show wpc sx L K0 R0 48 [(108, 3, .iinc 2 1, []), (111, 3, .goto (-62), [5])] 0 [vR (c0 + 2), vI x1, vI x2, vI x3] [] M Q
  simp only [w_inc_2 (c2I _), w_goto, true_and, and_true, true_or, or_true]
  exact h
theorem b_48_9 {sx : Int → Int} {L : Nat} {c0 : Nat} {x1 : Int} {x2 : Int} {u3 : AV} {M : Mem} {Q : Option AV → Mem → Prop} (h0 : isRb c0) (hu3 : cat2 u3 = false)
    (h : Rn sx L K0 R0 48 10 [vR (c0 + 2), vI x1, vI 0, u3] [] M Q) : Rn sx L K0 R0 48 9 [vR (c0 + 2), vI x1, vI x2, u3] [] M Q := by
  refine Rn_w (by decide) ?_
  show wpc sx L K0 R0 48 [(114, 1, .iconst 0, []), (115, 1, .istore_n 2, [])] 10 [vR (c0 + 2), vI x1, vI x2, u3] [] M Q
  simp only [w_iconst, w_is_2 (c2I _), w_fall, true_and, and_true, true_or, or_true]
  exact h
theorem b_48_10 {sx : Int → Int} {L : Nat} {c0 : Nat} {x1 : Int} {x2 : Int} {u3 : AV} {M : Mem} {Q : Option AV → Mem → Prop} (h0 : isRb c0) (hu3 : cat2 u3 = false) (hj0 : 0 ≤ x2 ∧ x2 < 8)
    (h : ((8 : Int) ≤ x2 → Rn sx L K0 R0 48 12 [vR (c0 + 2), vI x1, vI x2, u3] [] M Q) ∧ (¬ ((8 : Int) ≤ x2) → ((0 : Int) ≤ M (ckA c0 x2) 14 ∧ x2 ≤ (30 : Int)) ∧ ((iAnd ((M (ckA c0 x2) 14) / 2 ^ (x2).toNat) 1 = (0 : Int) → Rn sx L K0 R0 48 11 [vR (c0 + 2), vI x1, vI x2, u3] [] M Q) ∧ (¬ (iAnd ((M (ckA c0 x2) 14) / 2 ^ (x2).toNat) 1 = (0 : Int)) → ((0 : Int) ≤ (1 : Int) ∧ x2 ≤ (30 : Int) ∧ (1 : Int) * 2 ^ (x2).toNat ≤ (2147483647 : Int)) ∧ (Rn sx L K0 R0 48 11 [vR (c0 + 2), vI x1, vI x2, u3] [] (mset (mset M c0 16 (iOr (M c0 16) ((1 : Int) * 2 ^ (x2).toNat))) c0 15 x1) Q))))) : Rn sx L K0 R0 48 10 [vR (c0 + 2), vI x1, vI x2, u3] [] M Q := by
  refine Rn_w (by decide) ?_
  show wpc sx L K0 R0 48 [(116, 1, .iload_n 2, []), (117, 2, .bipush 8, []), (119, 3, .if_icmp .ge 42, [12]), (122, 1, .aload_n 0, []), (123, 3, .getfield 11, [3, 1, 445]), (126, 1, .iload_n 2, []), (127, 1, .aaload, []), (128, 3, .getfield 227, [0, 14, 400]), (131, 1, .iload_n 2, []), (132, 1, .ishr, []), (133, 1, .iconst 1, []), (134, 1, .iand, []), (135, 3, .ifCond .eq 20, [11]), (138, 1, .aload_n 0, []), (139, 1, .dup, []), (140, 3, .getfield 93, [3, 16, 466]), (143, 1, .iconst 1, []), (144, 1, .iload_n 2, []), (145, 1, .ishl, []), (146, 1, .ior, []), (147, 3, .putfield 93, [3, 16, 466]), (150, 1, .aload_n 0, []), (151, 1, .iload_n 1, []), (152, 3, .putfield 30, [3, 15, 463])] 11 [vR (c0 + 2), vI x1, vI x2, u3] [] M Q
  simp only [w_il_2, w_bipush, w_ic_ge, w_al_0, w_gf_3_1, kin_T (krb h0), rrb1 h0, w_aald, rcks h0 hj0.1 hj0.2, arq_T ((krb1 h0)) ⟨by decide, by decide⟩, hj0.1, (show x2 < ((8 : Nat) : Int) from hj0.2), w_gf_0_14, kin_T (kck (isCk_A h0 hj0.1 hj0.2)), w_ishr, w_iconst, w_iand, w_if_eq, w_dup (c2R _), w_gf_3_16, w_ishl, w_ior, w_pf_3_16, w_il_1, w_pf_3_15, w_fall, true_and, and_true, true_or, or_true]
  exact h
theorem b_48_11 {sx : Int → Int} {L : Nat} {c0 : Nat} {x1 : Int} {x2 : Int} {u3 : AV} {M : Mem} {Q : Option AV → Mem → Prop} (h0 : isRb c0) (hu3 : cat2 u3 = false)
    (h : inR (x2 + 1) ∧ (Rn sx L K0 R0 48 10 [vR (c0 + 2), vI x1, vI (x2 + 1), u3] [] M Q)) : Rn sx L K0 R0 48 11 [vR (c0 + 2), vI x1, vI x2, u3] [] M Q := by
  refine Rn_w (by decide) ?_
  show wpc sx L K0 R0 48 [(155, 3, .iinc 2 1, []), (158, 3, .goto (-42), [10])] 0 [vR (c0 + 2), vI x1, vI x2, u3] [] M Q
  simp only [w_inc_2 (c2I _), w_goto, true_and, and_true, true_or, or_true]
  exact h
theorem b_48_12 {sx : Int → Int} {L : Nat} {c0 : Nat} {x1 : Int} {x2 : Int} {u3 : AV} {M : Mem} {Q : Option AV → Mem → Prop} (h0 : isRb c0) (hu3 : cat2 u3 = false)
    (h : Q none M) : Rn sx L K0 R0 48 12 [vR (c0 + 2), vI x1, vI x2, u3] [] M Q := by
  refine Rn_w (by decide) ?_
  show wpc sx L K0 R0 48 [(161, 1, .return_, [])] 0 [vR (c0 + 2), vI x1, vI x2, u3] [] M Q
  simp only [w_ret0 rk_48, true_and, and_true, true_or, or_true]
  exact h
theorem b_49_0 {sx : Int → Int} {L : Nat} {c0 : Nat} {x1 : Int} {M : Mem} {Q : Option AV → Mem → Prop} (h0 : isRb c0)
    (h : Rn sx L K0 R0 49 1 [vR (c0 + 2), vI x1, vI 0] [] M Q) : Rn sx L K0 R0 49 0 [vR (c0 + 2), vI x1, vU] [] M Q := by
  refine Rn_w (by decide) ?_
  show wpc sx L K0 R0 49 [(0, 1, .iconst 0, []), (1, 1, .istore_n 2, [])] 1 [vR (c0 + 2), vI x1, vU] [] M Q
  simp only [w_iconst, w_is_2 (c2I _), w_fall, true_and, and_true, true_or, or_true]
  exact h
theorem b_49_1 {sx : Int → Int} {L : Nat} {c0 : Nat} {x1 : Int} {x2 : Int} {M : Mem} {Q : Option AV → Mem → Prop} (h0 : isRb c0) (hj0 : 0 ≤ x2 ∧ x2 < 8)
    (h : ((8 : Int) ≤ x2 → Rn sx L K0 R0 49 4 [vR (c0 + 2), vI x1, vI x2] [] M Q) ∧ (¬ ((8 : Int) ≤ x2) → ((0 : Int) ≤ M c0 12 ∧ x2 ≤ (30 : Int)) ∧ ((iAnd ((M c0 12) / 2 ^ (x2).toNat) 1 = (0 : Int) → Rn sx L K0 R0 49 2 [vR (c0 + 2), vI x1, vI x2] [] M Q) ∧ (¬ (iAnd ((M c0 12) / 2 ^ (x2).toNat) 1 = (0 : Int)) → Mq sx L K0 R0 6 [vR (ckA c0 x2 + 2)] M (fun rv M1 => ∃ r1, rv = some (vI r1) ∧ ((r1 = (0 : Int) → Rn sx L K0 R0 49 2 [vR (c0 + 2), vI x1, vI x2] [] M1 Q) ∧ (¬ (r1 = (0 : Int)) → inR (x1 + 1) ∧ (Mq sx L K0 R0 46 [vR (c0 + 2), vI x2, vI (x1 + 1)] M1 (fun rv M2 => rv = none ∧ (Rn sx L K0 R0 49 2 [vR (c0 + 2), vI x1, vI x2] [] M2 Q)))))))))) : Rn sx L K0 R0 49 1 [vR (c0 + 2), vI x1, vI x2] [] M Q := by
  refine Rn_w (by decide) ?_
  show wpc sx L K0 R0 49 [(2, 1, .iload_n 2, []), (3, 2, .bipush 8, []), (5, 3, .if_icmp .ge 69, [4]), (8, 1, .aload_n 0, []), (9, 3, .getfield 146, [3, 12, 460]), (12, 1, .iload_n 2, []), (13, 1, .ishr, []), (14, 1, .iconst 1, []), (15, 1, .iand, []), (16, 3, .ifCond .eq 23, [2]), (19, 1, .aload_n 0, []), (20, 3, .getfield 11, [3, 1, 445]), (23, 1, .iload_n 2, []), (24, 1, .aaload, []), (25, 3, .invokevirtual 230, [6, 826, 0]), (28, 3, .ifCond .eq 11, [2]), (31, 1, .aload_n 0, []), (32, 1, .iload_n 2, []), (33, 1, .iload_n 1, []), (34, 1, .iconst 1, []), (35, 1, .iadd, []), (36, 3, .invokevirtual 177, [46, 805, 2])] 2 [vR (c0 + 2), vI x1, vI x2] [] M Q
  simp only [w_il_2, w_bipush, w_ic_ge, w_al_0, w_gf_3_12, kin_T (krb h0), w_ishr, w_iconst, w_iand, w_if_eq, w_gf_3_1, rrb1 h0, w_aald, rcks h0 hj0.1 hj0.2, arq_T ((krb1 h0)) ⟨by decide, by decide⟩, hj0.1, (show x2 < ((8 : Nat) : Int) from hj0.2), w_ivv_0  cs0, mk_6, kin_T (kck (isCk_A h0 hj0.1 hj0.2)), rk_6, rvk2, List.cons_append, List.nil_append, w_il_1, w_iadd, w_ivv_2 (c2I _) (c2I _) cs0, mk_46, rk_46, rvk0, w_fall, true_and, and_true, true_or, or_true]
  exact h
theorem b_49_2 {sx : Int → Int} {L : Nat} {c0 : Nat} {x1 : Int} {x2 : Int} {M : Mem} {Q : Option AV → Mem → Prop} (h0 : isRb c0) (hj0 : 0 ≤ x2 ∧ x2 < 8)
    (h : ((0 : Int) ≤ M c0 11 ∧ x2 ≤ (30 : Int)) ∧ ((iAnd ((M c0 11) / 2 ^ (x2).toNat) 1 = (0 : Int) → Rn sx L K0 R0 49 3 [vR (c0 + 2), vI x1, vI x2] [] M Q) ∧ (¬ (iAnd ((M c0 11) / 2 ^ (x2).toNat) 1 = (0 : Int)) → (x1 < M (ckA c0 x2) 9 → Rn sx L K0 R0 49 3 [vR (c0 + 2), vI x1, vI x2] [] M Q) ∧ (¬ (x1 < M (ckA c0 x2) 9) → Rn sx L K0 R0 49 3 [vR (c0 + 2), vI x1, vI x2] [] (mset M c0 17 1) Q)))) : Rn sx L K0 R0 49 2 [vR (c0 + 2), vI x1, vI x2] [] M Q := by
  refine Rn_w (by decide) ?_
  show wpc sx L K0 R0 49 [(39, 1, .aload_n 0, []), (40, 3, .getfield 136, [3, 11, 459]), (43, 1, .iload_n 2, []), (44, 1, .ishr, []), (45, 1, .iconst 1, []), (46, 1, .iand, []), (47, 3, .ifCond .eq 21, [3]), (50, 1, .aload_n 0, []), (51, 3, .getfield 11, [3, 1, 445]), (54, 1, .iload_n 2, []), (55, 1, .aaload, []), (56, 3, .getfield 215, [0, 9, 393]), (59, 1, .iload_n 1, []), (60, 3, .if_icmp .gt 8, [3]), (63, 1, .aload_n 0, []), (64, 1, .iconst 1, []), (65, 3, .putfield 61, [3, 17, 468])] 3 [vR (c0 + 2), vI x1, vI x2] [] M Q
  simp only [w_al_0, w_gf_3_11, kin_T (krb h0), w_il_2, w_ishr, w_iconst, w_iand, w_if_eq, w_gf_3_1, rrb1 h0, w_aald, rcks h0 hj0.1 hj0.2, arq_T ((krb1 h0)) ⟨by decide, by decide⟩, hj0.1, (show x2 < ((8 : Nat) : Int) from hj0.2), w_gf_0_9, kin_T (kck (isCk_A h0 hj0.1 hj0.2)), w_il_1, w_ic_gt, w_pf_3_17, b01_1, w_fall, true_and, and_true, true_or, or_true]
  exact h
theorem b_49_3 {sx : Int → Int} {L : Nat} {c0 : Nat} {x1 : Int} {x2 : Int} {M : Mem} {Q : Option AV → Mem → Prop} (h0 : isRb c0)
    (h : inR (x2 + 1) ∧ (Rn sx L K0 R0 49 1 [vR (c0 + 2), vI x1, vI (x2 + 1)] [] M Q)) : Rn sx L K0 R0 49 3 [vR (c0 + 2), vI x1, vI x2] [] M Q := by
  refine Rn_w (by decide) ?_
  show wpc sx L K0 R0 49 [(68, 3, .iinc 2 1, []), (71, 3, .goto (-69), [1])] 0 [vR (c0 + 2), vI x1, vI x2] [] M Q
  simp only [w_inc_2 (c2I _), w_goto, true_and, and_true, true_or, or_true]
  exact h
theorem b_49_4 {sx : Int → Int} {L : Nat} {c0 : Nat} {x1 : Int} {x2 : Int} {M : Mem} {Q : Option AV → Mem → Prop} (h0 : isRb c0)
    (h : Q none M) : Rn sx L K0 R0 49 4 [vR (c0 + 2), vI x1, vI x2] [] M Q := by
  refine Rn_w (by decide) ?_
  show wpc sx L K0 R0 49 [(74, 1, .return_, [])] 0 [vR (c0 + 2), vI x1, vI x2] [] M Q
  simp only [w_ret0 rk_49, true_and, and_true, true_or, or_true]
  exact h
theorem b_50_0 {sx : Int → Int} {L : Nat} {c0 : Nat} {x1 : Int} {x2 : Int} {M : Mem} {Q : Option AV → Mem → Prop} (h0 : isRb c0)
    (h : (x1 < (0 : Int) → Rn sx L K0 R0 50 1 [vR (c0 + 2), vI x1, vI x2] [] M Q) ∧ (¬ (x1 < (0 : Int)) → (M c0 10 ≤ x1 → Rn sx L K0 R0 50 1 [vR (c0 + 2), vI x1, vI x2] [] M Q) ∧ (¬ (M c0 10 ≤ x1) → (x2 < (0 : Int) → Rn sx L K0 R0 50 1 [vR (c0 + 2), vI x1, vI x2] [] M Q) ∧ (¬ (x2 < (0 : Int)) → ((3 : Int) ≤ x2 → Rn sx L K0 R0 50 1 [vR (c0 + 2), vI x1, vI x2] [] M Q) ∧ (¬ ((3 : Int) ≤ x2) → inR (x2 * 120) ∧ (inR ((x2 * 120) + x1) ∧ (((0 : Int) ≤ (x2 * 120) + x1 ∧ (x2 * 120) + x1 < (360 : Int)) ∧ (Rn sx L K0 R0 50 2 [vR (c0 + 2), vI x1, vI x2] [vI (M (c0 + 5) ((x2 * 120) + x1))] M Q)))))))) : Rn sx L K0 R0 50 0 [vR (c0 + 2), vI x1, vI x2] [] M Q := by
  refine Rn_w (by decide) ?_
  show wpc sx L K0 R0 50 [(0, 1, .iload_n 1, []), (1, 3, .ifCond .lt 34, [1]), (4, 1, .iload_n 1, []), (5, 1, .aload_n 0, []), (6, 3, .getfield 45, [3, 10, 458]), (9, 3, .if_icmp .ge 26, [1]), (12, 1, .iload_n 2, []), (13, 3, .ifCond .lt 22, [1]), (16, 1, .iload_n 2, []), (17, 1, .iconst 3, []), (18, 3, .if_icmp .ge 17, [1]), (21, 1, .aload_n 0, []), (22, 3, .getfield 27, [3, 5, 453]), (25, 1, .iload_n 2, []), (26, 2, .bipush 120, []), (28, 1, .imul, []), (29, 1, .iload_n 1, []), (30, 1, .iadd, []), (31, 1, .iaload, []), (32, 3, .goto 4, [2])] 0 [vR (c0 + 2), vI x1, vI x2] [] M Q
  simp only [w_il_1, w_if_lt, w_al_0, w_gf_3_10, kin_T (krb h0), w_ic_ge, w_il_2, w_iconst, w_gf_3_5, rrb5 h0, w_bipush, w_imul, w_iadd, w_iald, arr_T ((krb5 h0)), w_goto, true_and, and_true, true_or, or_true]
  exact h
theorem b_50_1 {sx : Int → Int} {L : Nat} {c0 : Nat} {x1 : Int} {x2 : Int} {M : Mem} {Q : Option AV → Mem → Prop} (h0 : isRb c0)
    (h : Rn sx L K0 R0 50 2 [vR (c0 + 2), vI x1, vI x2] [vI (-1)] M Q) : Rn sx L K0 R0 50 1 [vR (c0 + 2), vI x1, vI x2] [] M Q := by
  refine Rn_w (by decide) ?_
  show wpc sx L K0 R0 50 [(35, 1, .iconst (-1), [])] 2 [vR (c0 + 2), vI x1, vI x2] [] M Q
  simp only [w_iconst, w_fall, true_and, and_true, true_or, or_true]
  exact h
theorem b_50_2 {sx : Int → Int} {L : Nat} {c0 : Nat} {x1 : Int} {x2 : Int} {y0 : Int} {M : Mem} {Q : Option AV → Mem → Prop} (h0 : isRb c0)
    (h : Q (some (vI y0)) M) : Rn sx L K0 R0 50 2 [vR (c0 + 2), vI x1, vI x2] [vI y0] M Q := by
  refine Rn_w (by decide) ?_
  show wpc sx L K0 R0 50 [(36, 1, .ireturn, [])] 0 [vR (c0 + 2), vI x1, vI x2] [vI y0] M Q
  simp only [w_ret1 rk_50, true_and, and_true, true_or, or_true]
  exact h
theorem b_51_0 {sx : Int → Int} {L : Nat} {c0 : Nat} {x1 : Int} {x2 : Int} {M : Mem} {Q : Option AV → Mem → Prop} (h0 : isRb c0)
    (h : (x2 < (0 : Int) → Rn sx L K0 R0 51 1 [vR (c0 + 2), vI x1, vI x2] [] M Q) ∧ (¬ (x2 < (0 : Int)) → (M c0 10 ≤ x2 → Rn sx L K0 R0 51 1 [vR (c0 + 2), vI x1, vI x2] [] M Q) ∧ (¬ (M c0 10 ≤ x2) → ((0 : Int) ≤ x2 ∧ x2 < (120 : Int)) ∧ (((0 : Int) ≤ M (c0 + 4) x2 ∧ (0 : Int) ≤ x1 ∧ x1 ≤ (30 : Int)) ∧ ((¬ iAnd ((M (c0 + 4) x2) / 2 ^ (x1).toNat) 1 = (0 : Int) → Rn sx L K0 R0 51 2 [vR (c0 + 2), vI x1, vI x2] [] M Q) ∧ (¬ (¬ iAnd ((M (c0 + 4) x2) / 2 ^ (x1).toNat) 1 = (0 : Int)) → Rn sx L K0 R0 51 1 [vR (c0 + 2), vI x1, vI x2] [] M Q)))))) : Rn sx L K0 R0 51 0 [vR (c0 + 2), vI x1, vI x2] [] M Q := by
  refine Rn_w (by decide) ?_
  show wpc sx L K0 R0 51 [(0, 1, .iload_n 2, []), (1, 3, .ifCond .lt 24, [1]), (4, 1, .iload_n 2, []), (5, 1, .aload_n 0, []), (6, 3, .getfield 45, [3, 10, 458]), (9, 3, .if_icmp .ge 16, [1]), (12, 1, .aload_n 0, []), (13, 3, .getfield 24, [3, 4, 452]), (16, 1, .iload_n 2, []), (17, 1, .iaload, []), (18, 1, .iload_n 1, []), (19, 1, .ishr, []), (20, 1, .iconst 1, []), (21, 1, .iand, []), (22, 3, .ifCond .ne 5, [2])] 1 [vR (c0 + 2), vI x1, vI x2] [] M Q
  simp only [w_il_2, w_if_lt, w_al_0, w_gf_3_10, kin_T (krb h0), w_ic_ge, w_gf_3_4, rrb4 h0, w_iald, arr_T ((krb4 h0)), w_il_1, w_ishr, w_iconst, w_iand, w_if_ne, w_fall, true_and, and_true, true_or, or_true]
  exact h
theorem b_51_1 {sx : Int → Int} {L : Nat} {c0 : Nat} {x1 : Int} {x2 : Int} {M : Mem} {Q : Option AV → Mem → Prop} (h0 : isRb c0)
    (h : Q (some (vI 0)) M) : Rn sx L K0 R0 51 1 [vR (c0 + 2), vI x1, vI x2] [] M Q := by
  refine Rn_w (by decide) ?_
  show wpc sx L K0 R0 51 [(25, 1, .iconst 0, []), (26, 1, .ireturn, [])] 0 [vR (c0 + 2), vI x1, vI x2] [] M Q
  simp only [w_iconst, w_ret1 rk_51, true_and, and_true, true_or, or_true]
  exact h
theorem b_51_2 {sx : Int → Int} {L : Nat} {c0 : Nat} {x1 : Int} {x2 : Int} {M : Mem} {Q : Option AV → Mem → Prop} (h0 : isRb c0)
    (h : ((0 : Int) ≤ x2 ∧ x2 < (120 : Int)) ∧ (((0 : Int) ≤ M (c0 + 2) x2 ∧ (0 : Int) ≤ x1 ∧ x1 ≤ (30 : Int)) ∧ ((iAnd ((M (c0 + 2) x2) / 2 ^ (x1).toNat) 1 = (0 : Int) → Rn sx L K0 R0 51 3 [vR (c0 + 2), vI x1, vI x2] [] M Q) ∧ (¬ (iAnd ((M (c0 + 2) x2) / 2 ^ (x1).toNat) 1 = (0 : Int)) → Q (some (vI 1)) M)))) : Rn sx L K0 R0 51 2 [vR (c0 + 2), vI x1, vI x2] [] M Q := by
  refine Rn_w (by decide) ?_
  show wpc sx L K0 R0 51 [(27, 1, .aload_n 0, []), (28, 3, .getfield 17, [3, 2, 448]), (31, 1, .iload_n 2, []), (32, 1, .iaload, []), (33, 1, .iload_n 1, []), (34, 1, .ishr, []), (35, 1, .iconst 1, []), (36, 1, .iand, []), (37, 3, .ifCond .eq 5, [3]), (40, 1, .iconst 1, []), (41, 1, .ireturn, [])] 0 [vR (c0 + 2), vI x1, vI x2] [] M Q
  simp only [w_al_0, w_gf_3_2, kin_T (krb h0), rrb2 h0, w_il_2, w_iald, arr_T ((krb2 h0)), w_il_1, w_ishr, w_iconst, w_iand, w_if_eq, w_ret1 rk_51, true_and, and_true, true_or, or_true]
  exact h
theorem b_51_3 {sx : Int → Int} {L : Nat} {c0 : Nat} {x1 : Int} {x2 : Int} {M : Mem} {Q : Option AV → Mem → Prop} (h0 : isRb c0)
    (h : ((0 : Int) ≤ x2 ∧ x2 < (120 : Int)) ∧ (((0 : Int) ≤ M (c0 + 3) x2 ∧ (0 : Int) ≤ x1 ∧ x1 ≤ (30 : Int)) ∧ ((iAnd ((M (c0 + 3) x2) / 2 ^ (x1).toNat) 1 = (0 : Int) → Rn sx L K0 R0 51 4 [vR (c0 + 2), vI x1, vI x2] [] M Q) ∧ (¬ (iAnd ((M (c0 + 3) x2) / 2 ^ (x1).toNat) 1 = (0 : Int)) → Rn sx L K0 R0 51 5 [vR (c0 + 2), vI x1, vI x2] [vI 2] M Q)))) : Rn sx L K0 R0 51 3 [vR (c0 + 2), vI x1, vI x2] [] M Q := by
  refine Rn_w (by decide) ?_
  show wpc sx L K0 R0 51 [(42, 1, .aload_n 0, []), (43, 3, .getfield 21, [3, 3, 450]), (46, 1, .iload_n 2, []), (47, 1, .iaload, []), (48, 1, .iload_n 1, []), (49, 1, .ishr, []), (50, 1, .iconst 1, []), (51, 1, .iand, []), (52, 3, .ifCond .eq 7, [4]), (55, 1, .iconst 2, []), (56, 3, .goto 4, [5])] 0 [vR (c0 + 2), vI x1, vI x2] [] M Q
  simp only [w_al_0, w_gf_3_3, kin_T (krb h0), rrb3 h0, w_il_2, w_iald, arr_T ((krb3 h0)), w_il_1, w_ishr, w_iconst, w_iand, w_if_eq, w_goto, true_and, and_true, true_or, or_true]
  exact h
theorem b_51_4 {sx : Int → Int} {L : Nat} {c0 : Nat} {x1 : Int} {x2 : Int} {M : Mem} {Q : Option AV → Mem → Prop} (h0 : isRb c0)
    (h : Rn sx L K0 R0 51 5 [vR (c0 + 2), vI x1, vI x2] [vI 3] M Q) : Rn sx L K0 R0 51 4 [vR (c0 + 2), vI x1, vI x2] [] M Q := by
  refine Rn_w (by decide) ?_
  show wpc sx L K0 R0 51 [(59, 1, .iconst 3, [])] 5 [vR (c0 + 2), vI x1, vI x2] [] M Q
  simp only [w_iconst, w_fall, true_and, and_true, true_or, or_true]
  exact h
theorem b_51_5 {sx : Int → Int} {L : Nat} {c0 : Nat} {x1 : Int} {x2 : Int} {y0 : Int} {M : Mem} {Q : Option AV → Mem → Prop} (h0 : isRb c0)
    (h : Q (some (vI y0)) M) : Rn sx L K0 R0 51 5 [vR (c0 + 2), vI x1, vI x2] [vI y0] M Q := by
  refine Rn_w (by decide) ?_
  show wpc sx L K0 R0 51 [(60, 1, .ireturn, [])] 0 [vR (c0 + 2), vI x1, vI x2] [vI y0] M Q
  simp only [w_ret1 rk_51, true_and, and_true, true_or, or_true]
  exact h
theorem b_52_0 {sx : Int → Int} {L : Nat} {c0 : Nat} {c1 : Nat} {n1 : Nat} {x2 : Int} {M : Mem} {Q : Option AV → Mem → Prop} (h0 : isRb c0) (h1 : K0[c1]? = some (10, n1))
    (h : Rn sx L K0 R0 52 1 [vR (c0 + 2), vR (c1 + 2), vI x2, vI 0, vI 0] [] M Q) : Rn sx L K0 R0 52 0 [vR (c0 + 2), vR (c1 + 2), vI x2, vU, vU] [] M Q := by
  refine Rn_w (by decide) ?_
  show wpc sx L K0 R0 52 [(0, 1, .iconst 0, []), (1, 1, .istore_n 3, []), (2, 1, .iconst 0, []), (3, 2, .istore 4, [])] 1 [vR (c0 + 2), vR (c1 + 2), vI x2, vU, vU] [] M Q
  simp only [w_iconst, w_is_3 (c2I _), w_is_4 (c2I _), w_fall, true_and, and_true, true_or, or_true]
  exact h
theorem b_52_1 {sx : Int → Int} {L : Nat} {c0 : Nat} {c1 : Nat} {n1 : Nat} {x2 : Int} {x3 : Int} {x4 : Int} {M : Mem} {Q : Option AV → Mem → Prop} (h0 : isRb c0) (h1 : K0[c1]? = some (10, n1))
    (h : (M c0 10 ≤ x4 → Rn sx L K0 R0 52 2 [vR (c0 + 2), vR (c1 + 2), vI x2, vI x3, vI x4] [] M Q) ∧ (¬ (M c0 10 ≤ x4) → (((n1 : Nat) : Int) ≤ x4 → Rn sx L K0 R0 52 2 [vR (c0 + 2), vR (c1 + 2), vI x2, vI x3, vI x4] [] M Q) ∧ (¬ (((n1 : Nat) : Int) ≤ x4) → ((0 : Int) ≤ x4 ∧ x4 < n1) ∧ (((0 : Int) ≤ M c1 x4 ∧ (0 : Int) ≤ x2 ∧ x2 ≤ (30 : Int)) ∧ (inR (x3 + (iAnd ((M c1 x4) / 2 ^ (x2).toNat) 1)) ∧ (inR (x4 + 1) ∧ (Rn sx L K0 R0 52 1 [vR (c0 + 2), vR (c1 + 2), vI x2, vI (x3 + (iAnd ((M c1 x4) / 2 ^ (x2).toNat) 1)), vI (x4 + 1)] [] M Q))))))) : Rn sx L K0 R0 52 1 [vR (c0 + 2), vR (c1 + 2), vI x2, vI x3, vI x4] [] M Q := by
  refine Rn_w (by decide) ?_
  show wpc sx L K0 R0 52 [(5, 2, .iload 4, []), (7, 1, .aload_n 0, []), (8, 3, .getfield 45, [3, 10, 458]), (11, 3, .if_icmp .ge 27, [2]), (14, 2, .iload 4, []), (16, 1, .aload_n 1, []), (17, 1, .arraylength, []), (18, 3, .if_icmp .ge 20, [2]), (21, 1, .iload_n 3, []), (22, 1, .aload_n 1, []), (23, 2, .iload 4, []), (25, 1, .iaload, []), (26, 1, .iload_n 2, []), (27, 1, .ishr, []), (28, 1, .iconst 1, []), (29, 1, .iand, []), (30, 1, .iadd, []), (31, 1, .istore_n 3, []), (32, 3, .iinc 4 1, []), (35, 3, .goto (-30), [1])] 0 [vR (c0 + 2), vR (c1 + 2), vI x2, vI x3, vI x4] [] M Q
  simp only [w_il_4, w_al_0, w_gf_3_10, kin_T (krb h0), w_ic_ge, w_al_1, w_alen (h1) ⟨by decide, by decide⟩, w_il_3, w_iald, arr_T (h1), w_il_2, w_ishr, w_iconst, w_iand, w_iadd, w_is_3 (c2I _), w_inc_4 (c2I _), w_goto, true_and, and_true, true_or, or_true]
  exact h
theorem b_52_2 {sx : Int → Int} {L : Nat} {c0 : Nat} {c1 : Nat} {n1 : Nat} {x2 : Int} {x3 : Int} {x4 : Int} {M : Mem} {Q : Option AV → Mem → Prop} (h0 : isRb c0) (h1 : K0[c1]? = some (10, n1))
    (h : Q (some (vI x3)) M) : Rn sx L K0 R0 52 2 [vR (c0 + 2), vR (c1 + 2), vI x2, vI x3, vI x4] [] M Q := by
  refine Rn_w (by decide) ?_
  show wpc sx L K0 R0 52 [(38, 1, .iload_n 3, []), (39, 1, .ireturn, [])] 0 [vR (c0 + 2), vR (c1 + 2), vI x2, vI x3, vI x4] [] M Q
  simp only [w_il_3, w_ret1 rk_52, true_and, and_true, true_or, or_true]
  exact h
theorem b_53_0 {sx : Int → Int} {L : Nat} {c0 : Nat} {x1 : Int} {x2 : Int} {M : Mem} {Q : Option AV → Mem → Prop} (h0 : isRb c0)
    (h : Rn sx L K0 R0 53 1 [vR (c0 + 2), vI x1, vI x2, vI 0, vI 0] [] M Q) : Rn sx L K0 R0 53 0 [vR (c0 + 2), vI x1, vI x2, vU, vU] [] M Q := by
  refine Rn_w (by decide) ?_
  show wpc sx L K0 R0 53 [(0, 1, .iconst 0, []), (1, 1, .istore_n 3, []), (2, 1, .iconst 0, []), (3, 2, .istore 4, [])] 1 [vR (c0 + 2), vI x1, vI x2, vU, vU] [] M Q
  simp only [w_iconst, w_is_3 (c2I _), w_is_4 (c2I _), w_fall, true_and, and_true, true_or, or_true]
  exact h
set_option maxRecDepth 8192 in
theorem b_53_1 {sx : Int → Int} {L : Nat} {c0 : Nat} {x1 : Int} {x2 : Int} {x3 : Int} {x4 : Int} {M : Mem} {Q : Option AV → Mem → Prop} (h0 : isRb c0)
    (h : (M c0 10 ≤ x4 → Rn sx L K0 R0 53 3 [vR (c0 + 2), vI x1, vI x2, vI x3, vI x4] [] M Q) ∧ (¬ (M c0 10 ≤ x4) → ((0 : Int) ≤ x4 ∧ x4 < (120 : Int)) ∧ ((iAnd (M (c0 + 2) x4) x2 = (0 : Int) → Rn sx L K0 R0 53 2 [vR (c0 + 2), vI x1, vI x2, vI x3, vI x4] [] M Q) ∧ (¬ (iAnd (M (c0 + 2) x4) x2 = (0 : Int)) → ((0 : Int) ≤ x4 ∧ x4 < (120 : Int)) ∧ (((0 : Int) ≤ x4 ∧ x4 < (120 : Int)) ∧ (((0 : Int) ≤ iAnd (M (c0 + 4) x4) (iXor (M (c0 + 2) x4) (-1)) ∧ (0 : Int) ≤ x1 ∧ x1 ≤ (30 : Int)) ∧ (inR (x3 + (iAnd ((iAnd (M (c0 + 4) x4) (iXor (M (c0 + 2) x4) (-1))) / 2 ^ (x1).toNat) 1)) ∧ (Rn sx L K0 R0 53 2 [vR (c0 + 2), vI x1, vI x2, vI (x3 + (iAnd ((iAnd (M (c0 + 4) x4) (iXor (M (c0 + 2) x4) (-1))) / 2 ^ (x1).toNat) 1)), vI x4] [] M Q)))))))) : Rn sx L K0 R0 53 1 [vR (c0 + 2), vI x1, vI x2, vI x3, vI x4] [] M Q := by
  refine Rn_w (by decide) ?_
  show wpc sx L K0 R0 53 [(5, 2, .iload 4, []), (7, 1, .aload_n 0, []), (8, 3, .getfield 45, [3, 10, 458]), (11, 3, .if_icmp .ge 45, [3]), (14, 1, .aload_n 0, []), (15, 3, .getfield 17, [3, 2, 448]), (18, 2, .iload 4, []), (20, 1, .iaload, []), (21, 1, .iload_n 2, []), (22, 1, .iand, []), (23, 3, .ifCond .eq 27, [2]), (26, 1, .iload_n 3, []), (27, 1, .aload_n 0, []), (28, 3, .getfield 24, [3, 4, 452]), (31, 2, .iload 4, []), (33, 1, .iaload, []), (34, 1, .aload_n 0, []), (35, 3, .getfield 17, [3, 2, 448]), (38, 2, .iload 4, []), (40, 1, .iaload, []), (41, 1, .iconst (-1), []), (42, 1, .ixor, []), (43, 1, .iand, []), (44, 1, .iload_n 1, []), (45, 1, .ishr, []), (46, 1, .iconst 1, []), (47, 1, .iand, []), (48, 1, .iadd, []), (49, 1, .istore_n 3, [])] 2 [vR (c0 + 2), vI x1, vI x2, vI x3, vI x4] [] M Q
  simp only [w_il_4, w_al_0, w_gf_3_10, kin_T (krb h0), w_ic_ge, w_gf_3_2, rrb2 h0, w_iald, arr_T ((krb2 h0)), w_il_2, w_iand, w_if_eq, w_il_3, w_gf_3_4, rrb4 h0, arr_T ((krb4 h0)), w_iconst, w_ixor, w_il_1, w_ishr, w_iadd, w_is_3 (c2I _), w_fall, true_and, and_true, true_or, or_true]
  exact h
theorem b_53_2 {sx : Int → Int} {L : Nat} {c0 : Nat} {x1 : Int} {x2 : Int} {x3 : Int} {x4 : Int} {M : Mem} {Q : Option AV → Mem → Prop} (h0 : isRb c0)
    (h : inR (x4 + 1) ∧ (Rn sx L K0 R0 53 1 [vR (c0 + 2), vI x1, vI x2, vI x3, vI (x4 + 1)] [] M Q)) : Rn sx L K0 R0 53 2 [vR (c0 + 2), vI x1, vI x2, vI x3, vI x4] [] M Q := by
  refine Rn_w (by decide) ?_
  show wpc sx L K0 R0 53 [(50, 3, .iinc 4 1, []), (53, 3, .goto (-48), [1])] 0 [vR (c0 + 2), vI x1, vI x2, vI x3, vI x4] [] M Q
  simp only [w_inc_4 (c2I _), w_goto, true_and, and_true, true_or, or_true]
  exact h
theorem b_53_3 {sx : Int → Int} {L : Nat} {c0 : Nat} {x1 : Int} {x2 : Int} {x3 : Int} {x4 : Int} {M : Mem} {Q : Option AV → Mem → Prop} (h0 : isRb c0)
    (h : Q (some (vI x3)) M) : Rn sx L K0 R0 53 3 [vR (c0 + 2), vI x1, vI x2, vI x3, vI x4] [] M Q := by
  refine Rn_w (by decide) ?_
  show wpc sx L K0 R0 53 [(56, 1, .iload_n 3, []), (57, 1, .ireturn, [])] 0 [vR (c0 + 2), vI x1, vI x2, vI x3, vI x4] [] M Q
  simp only [w_il_3, w_ret1 rk_53, true_and, and_true, true_or, or_true]
  exact h
theorem b_55_0 {sx : Int → Int} {L : Nat}  {M : Mem} {Q : Option AV → Mem → Prop} 
    (h : Q none (mset (mset (mset (mset M 74 3 0) 74 6 0) 74 10 0) 74 13 0)) : Rn sx L K0 R0 55 0 [vR 76] [] M Q := by
  refine Rn_w (by decide) ?_
  show wpc sx L K0 R0 55 [(0, 1, .aload_n 0, []), (1, 1, .iconst 0, []), (2, 3, .putfield 35, [4, 3, 518]), (5, 1, .aload_n 0, []), (6, 1, .iconst 0, []), (7, 3, .putfield 39, [4, 6, 521]), (10, 1, .aload_n 0, []), (11, 1, .iconst 0, []), (12, 3, .putfield 42, [4, 10, 527]), (15, 1, .aload_n 0, []), (16, 1, .iconst 0, []), (17, 3, .putfield 46, [4, 13, 532]), (20, 1, .return_, [])] 0 [vR 76] [] M Q
  simp only [w_al_0, w_iconst, w_pf_4_3, kin_T (ks_74), b01_0, w_pf_4_6, w_pf_4_10, w_pf_4_13, w_ret0 rk_55, true_and, and_true, true_or, or_true]
  exact h
theorem b_56_0 {sx : Int → Int} {L : Nat}  {M : Mem} {Q : Option AV → Mem → Prop} 
    (h : (M 74 3 = (0 : Int) → Rn sx L K0 R0 56 1 [vR 76, vU, vU, vU, vU] [] M Q) ∧ (¬ (M 74 3 = (0 : Int)) → Q none M)) : Rn sx L K0 R0 56 0 [vR 76, vU, vU, vU, vU] [] M Q := by
  refine Rn_w (by decide) ?_
  show wpc sx L K0 R0 56 [(0, 1, .aload_n 0, []), (1, 3, .getfield 35, [4, 3, 518]), (4, 3, .ifCond .eq 4, [1]), (7, 1, .return_, [])] 0 [vR 76, vU, vU, vU, vU] [] M Q
  simp only [w_al_0, w_gf_4_3, kin_T (ks_74), w_if_eq, w_ret0 rk_56, true_and, and_true, true_or, or_true]
  exact h
theorem b_56_1 {sx : Int → Int} {L : Nat}  {M : Mem} {Q : Option AV → Mem → Prop} 
    (h : Mq sx L K0 R0 75 [vR 99, vR 8] (mset (mset M 74 3 1) 74 4 0) (fun rv M1 => rv = none ∧ (Mq sx L K0 R0 59 [vR 76] M1 (fun rv M2 => ∃ r1, rv = some (vI r1) ∧ (Rn sx L K0 R0 56 2 [vR 76, vI r1, vI 1, vI 0, vU] [] M2 Q))))) : Rn sx L K0 R0 56 1 [vR 76, vU, vU, vU, vU] [] M Q := by
  refine Rn_w (by decide) ?_
  show wpc sx L K0 R0 56 [(8, 1, .aload_n 0, []), (9, 1, .iconst 1, []), (10, 3, .putfield 35, [4, 3, 518]), (13, 1, .aload_n 0, []), (14, 1, .iconst 0, []), (15, 3, .putfield 49, [4, 4, 519]), (18, 1, .aload_n 0, []), (19, 3, .getfield 12, [4, 1, 516]), (22, 1, .aload_n 0, []), (23, 3, .getfield 28, [4, 0, 515]), (26, 3, .invokevirtual 52, [75, 963, 1]), (29, 1, .aload_n 0, []), (30, 3, .invokevirtual 56, [59, 967, 0]), (33, 1, .istore_n 1, []), (34, 1, .iconst 1, []), (35, 1, .istore_n 2, []), (36, 1, .iconst 0, []), (37, 1, .istore_n 3, [])] 2 [vR 76, vU, vU, vU, vU] [] M Q
  simp only [w_al_0, w_iconst, w_pf_4_3, kin_T (ks_74), b01_1, w_pf_4_4, b01_0, w_gf_4_1, rs_74_1, w_gf_4_0, rs_74_0, w_ivv_1 (c2R _) cs0, mk_75, kin_T (ks_97), rk_75, rvk0, List.nil_append, w_ivv_0  cs0, mk_59, rk_59, rvk1, List.cons_append, w_is_1 (c2R _), w_is_2 (c2I _), w_is_3 (c2I _), w_fall, true_and, and_true, true_or, or_true]
  exact h
theorem b_56_2 {sx : Int → Int} {L : Nat} {x1 : Int} {x2 : Int} {x3 : Int} {u4 : AV} {M : Mem} {Q : Option AV → Mem → Prop} (hu4 : cat2 u4 = false)
    (h : ((120 : Int) ≤ x3 → Rn sx L K0 R0 56 8 [vR 76, vI x1, vI x2, vI x3, u4] [] M Q) ∧ (¬ ((120 : Int) ≤ x3) → (x2 = (0 : Int) → Rn sx L K0 R0 56 8 [vR 76, vI x1, vI x2, vI x3, u4] [] M Q) ∧ (¬ (x2 = (0 : Int)) → Rn sx L K0 R0 56 3 [vR 76, vI x1, vI x2, vI x3, vI 0] [] M Q))) : Rn sx L K0 R0 56 2 [vR 76, vI x1, vI x2, vI x3, u4] [] M Q := by
  refine Rn_w (by decide) ?_
  show wpc sx L K0 R0 56 [(38, 1, .iload_n 3, []), (39, 2, .bipush 120, []), (41, 3, .if_icmp .ge 106, [8]), (44, 1, .iload_n 2, []), (45, 3, .ifCond .eq 102, [8]), (48, 1, .iconst 0, []), (49, 2, .istore 4, [])] 3 [vR 76, vI x1, vI x2, vI x3, u4] [] M Q
  simp only [w_il_3, w_bipush, w_ic_ge, w_il_2, w_if_eq, w_iconst, w_is_4 (c2I _), w_fall, true_and, and_true, true_or, or_true]
  exact h
theorem b_56_3 {sx : Int → Int} {L : Nat} {x1 : Int} {x2 : Int} {x3 : Int} {x4 : Int} {M : Mem} {Q : Option AV → Mem → Prop} 
    (h : (x1 ≤ x4 → Rn sx L K0 R0 56 4 [vR 76, vI x1, vI x2, vI x3, vI x4] [] M Q) ∧ (¬ (x1 ≤ x4) → Mq sx L K0 R0 58 [vR 76, vI x4] M (fun rv M1 => ∃ r1, rv = some (vI r1) ∧ (inR ((90 : Int) - x4) ∧ (((0 : Int) ≤ r1 ∧ r1 < (8 : Int)) ∧ (inR (x4 + 1) ∧ (Rn sx L K0 R0 56 3 [vR 76, vI x1, vI x2, vI x3, vI (x4 + 1)] [] (mset M1 98 r1 ((90 : Int) - x4)) Q))))))) : Rn sx L K0 R0 56 3 [vR 76, vI x1, vI x2, vI x3, vI x4] [] M Q := by
  refine Rn_w (by decide) ?_
  show wpc sx L K0 R0 56 [(51, 2, .iload 4, []), (53, 1, .iload_n 1, []), (54, 3, .if_icmp .ge 28, [4]), (57, 1, .aload_n 0, []), (58, 3, .getfield 12, [4, 1, 516]), (61, 3, .getfield 60, [5, 1, 205]), (64, 1, .aload_n 0, []), (65, 2, .iload 4, []), (67, 3, .invokevirtual 63, [58, 972, 1]), (70, 2, .bipush 90, []), (72, 2, .iload 4, []), (74, 1, .isub, []), (75, 1, .iastore, []), (76, 3, .iinc 4 1, []), (79, 3, .goto (-28), [3])] 0 [vR 76, vI x1, vI x2, vI x3, vI x4] [] M Q
  simp only [w_il_4, w_il_1, w_ic_ge, w_al_0, w_gf_4_1, kin_T (ks_74), rs_74_1, w_gf_5_1, kin_T (ks_97), (rst1 (c := 97) (by unfold isSt; omega)), w_ivv_1 (c2I _) (cs1 _), mk_58, rk_58, rvk1, List.cons_append, List.nil_append, w_bipush, w_isub, w_iast, arr_T (ks_98), w_inc_4 (c2I _), w_goto, true_and, and_true, true_or, or_true]
  exact h
theorem b_56_4 {sx : Int → Int} {L : Nat} {x1 : Int} {x2 : Int} {x3 : Int} {x4 : Int} {M : Mem} {Q : Option AV → Mem → Prop} 
    (h : Mq sx L K0 R0 36 [vR 77, vR 99, vI (M 97 7), vI 1] M (fun rv M1 => rv = none ∧ ((¬ M1 75 17 = (0 : Int) → Rn sx L K0 R0 56 5 [vR 76, vI x1, vI x2, vI x3, vI x4] [] M1 Q) ∧ (¬ (¬ M1 75 17 = (0 : Int)) → Q none (mset M1 74 4 1))))) : Rn sx L K0 R0 56 4 [vR 76, vI x1, vI x2, vI x3, vI x4] [] M Q := by
  refine Rn_w (by decide) ?_
  show wpc sx L K0 R0 56 [(82, 1, .aload_n 0, []), (83, 3, .getfield 31, [4, 2, 517]), (86, 1, .aload_n 0, []), (87, 3, .getfield 12, [4, 1, 516]), (90, 1, .aload_n 0, []), (91, 3, .getfield 12, [4, 1, 516]), (94, 3, .getfield 67, [5, 7, 227]), (97, 1, .iconst 1, []), (98, 3, .invokevirtual 70, [36, 977, 3]), (101, 1, .aload_n 0, []), (102, 3, .getfield 31, [4, 2, 517]), (105, 3, .getfield 76, [3, 17, 469]), (108, 3, .ifCond .ne 9, [5]), (111, 1, .aload_n 0, []), (112, 1, .iconst 1, []), (113, 3, .putfield 49, [4, 4, 519]), (116, 1, .return_, [])] 0 [vR 76, vI x1, vI x2, vI x3, vI x4] [] M Q
  simp only [w_al_0, w_gf_4_2, kin_T (ks_74), rs_74_2, w_gf_4_1, rs_74_1, w_gf_5_7, kin_T (ks_97), w_iconst, w_ivv_3 (c2I _) (c2I _) (c2R _) cs0, mk_36, kin_T (ks_75), rk_36, rvk0, List.nil_append, w_gf_3_17, w_if_ne, w_pf_4_4, b01_1, w_ret0 rk_56, true_and, and_true, true_or, or_true]
  exact h
theorem b_56_5 {sx : Int → Int} {L : Nat} {x1 : Int} {x2 : Int} {x3 : Int} {x4 : Int} {M : Mem} {Q : Option AV → Mem → Prop} 
    (h : Mq sx L K0 R0 79 [vR 99] M (fun rv M1 => ∃ r1, rv = some (vI r1) ∧ ((r1 = (0 : Int) → Rn sx L K0 R0 56 6 [vR 76, vI x1, vI x2, vI x3, vI x4] [] M1 Q) ∧ (¬ (r1 = (0 : Int)) → Mq sx L K0 R0 60 [vR 76, vI x1] M1 (fun rv M2 => ∃ r2, rv = some (vI r2) ∧ ((r2 = (0 : Int) → Rn sx L K0 R0 56 6 [vR 76, vI x1, vI x2, vI x3, vI x4] [] M2 Q) ∧ (¬ (r2 = (0 : Int)) → Rn sx L K0 R0 56 7 [vR 76, vI x1, vI x2, vI x3, vI x4] [vI 1] M2 Q))))))) : Rn sx L K0 R0 56 5 [vR 76, vI x1, vI x2, vI x3, vI x4] [] M Q := by
  refine Rn_w (by decide) ?_
  show wpc sx L K0 R0 56 [(117, 1, .aload_n 0, []), (118, 3, .getfield 12, [4, 1, 516]), (121, 3, .invokevirtual 79, [79, 978, 0]), (124, 3, .ifCond .eq 15, [6]), (127, 1, .aload_n 0, []), (128, 1, .iload_n 1, []), (129, 3, .invokevirtual 83, [60, 982, 1]), (132, 3, .ifCond .eq 7, [6]), (135, 1, .iconst 1, []), (136, 3, .goto 4, [7])] 0 [vR 76, vI x1, vI x2, vI x3, vI x4] [] M Q
  simp only [w_al_0, w_gf_4_1, kin_T (ks_74), rs_74_1, w_ivv_0  cs0, mk_79, kin_T (ks_97), rk_79, rvk2, List.cons_append, List.nil_append, w_if_eq, w_il_1, w_ivv_1 (c2I _) cs0, mk_60, rk_60, w_iconst, w_goto, true_and, and_true, true_or, or_true]
  exact h
theorem b_56_6 {sx : Int → Int} {L : Nat} {x1 : Int} {x2 : Int} {x3 : Int} {x4 : Int} {M : Mem} {Q : Option AV → Mem → Prop} 
    (h : Rn sx L K0 R0 56 7 [vR 76, vI x1, vI x2, vI x3, vI x4] [vI 0] M Q) : Rn sx L K0 R0 56 6 [vR 76, vI x1, vI x2, vI x3, vI x4] [] M Q := by
  refine Rn_w (by decide) ?_
  show wpc sx L K0 R0 56 [(139, 1, .iconst 0, [])] 7 [vR 76, vI x1, vI x2, vI x3, vI x4] [] M Q
  simp only [w_iconst, w_fall, true_and, and_true, true_or, or_true]
  exact h
theorem b_56_7 {sx : Int → Int} {L : Nat} {x1 : Int} {x2 : Int} {x3 : Int} {x4 : Int} {y0 : Int} {M : Mem} {Q : Option AV → Mem → Prop} 
    (h : inR (x3 + 1) ∧ (Rn sx L K0 R0 56 2 [vR 76, vI x1, vI y0, vI (x3 + 1), vI x4] [] M Q)) : Rn sx L K0 R0 56 7 [vR 76, vI x1, vI x2, vI x3, vI x4] [vI y0] M Q := by
  refine Rn_w (by decide) ?_
  show wpc sx L K0 R0 56 [(140, 1, .istore_n 2, []), (141, 3, .iinc 3 1, []), (144, 3, .goto (-106), [2])] 0 [vR 76, vI x1, vI x2, vI x3, vI x4] [vI y0] M Q
  simp only [w_is_2 (c2I _), w_inc_3 (c2I _), w_goto, true_and, and_true, true_or, or_true]
  exact h
theorem b_56_8 {sx : Int → Int} {L : Nat} {x1 : Int} {x2 : Int} {x3 : Int} {u4 : AV} {M : Mem} {Q : Option AV → Mem → Prop} (hu4 : cat2 u4 = false)
    (h : Q none M) : Rn sx L K0 R0 56 8 [vR 76, vI x1, vI x2, vI x3, u4] [] M Q := by
  refine Rn_w (by decide) ?_
  show wpc sx L K0 R0 56 [(147, 1, .return_, [])] 0 [vR 76, vI x1, vI x2, vI x3, u4] [] M Q
  simp only [w_ret0 rk_56, true_and, and_true, true_or, or_true]
  exact h
theorem b_57_0 {sx : Int → Int} {L : Nat} {x1 : Int} {M : Mem} {Q : Option AV → Mem → Prop} 
    (h : (M 74 4 = (0 : Int) → Rn sx L K0 R0 57 1 [vR 76, vI x1] [] M Q) ∧ (¬ (M 74 4 = (0 : Int)) → Mq sx L K0 R0 58 [vR 76, vI x1] M (fun rv M1 => ∃ r1, rv = some (vI r1) ∧ (Rn sx L K0 R0 57 2 [vR 76, vI x1] [vI r1] M1 Q)))) : Rn sx L K0 R0 57 0 [vR 76, vI x1] [] M Q := by
  refine Rn_w (by decide) ?_
  show wpc sx L K0 R0 57 [(0, 1, .aload_n 0, []), (1, 3, .getfield 49, [4, 4, 519]), (4, 3, .ifCond .eq 11, [1]), (7, 1, .aload_n 0, []), (8, 1, .iload_n 1, []), (9, 3, .invokevirtual 63, [58, 972, 1]), (12, 3, .goto 4, [2])] 0 [vR 76, vI x1] [] M Q
  simp only [w_al_0, w_gf_4_4, kin_T (ks_74), w_if_eq, w_il_1, w_ivv_1 (c2I _) cs0, mk_58, rk_58, rvk1, List.cons_append, List.nil_append, w_goto, true_and, and_true, true_or, or_true]
  exact h
theorem b_57_1 {sx : Int → Int} {L : Nat} {x1 : Int} {M : Mem} {Q : Option AV → Mem → Prop} 
    (h : Rn sx L K0 R0 57 2 [vR 76, vI x1] [vI (-1)] M Q) : Rn sx L K0 R0 57 1 [vR 76, vI x1] [] M Q := by
  refine Rn_w (by decide) ?_
  show wpc sx L K0 R0 57 [(15, 1, .iconst (-1), [])] 2 [vR 76, vI x1] [] M Q
  simp only [w_iconst, w_fall, true_and, and_true, true_or, or_true]
  exact h
theorem b_57_2 {sx : Int → Int} {L : Nat} {x1 : Int} {y0 : Int} {M : Mem} {Q : Option AV → Mem → Prop} 
    (h : Q (some (vI y0)) M) : Rn sx L K0 R0 57 2 [vR 76, vI x1] [vI y0] M Q := by
  refine Rn_w (by decide) ?_
  show wpc sx L K0 R0 57 [(16, 1, .ireturn, [])] 0 [vR 76, vI x1] [vI y0] M Q
  simp only [w_ret1 rk_57, true_and, and_true, true_or, or_true]
  exact h
theorem b_58_0 {sx : Int → Int} {L : Nat} {x1 : Int} {M : Mem} {Q : Option AV → Mem → Prop} 
    (h : (x1 < (0 : Int) → Rn sx L K0 R0 58 1 [vR 76, vI x1, vU] [] M Q) ∧ (¬ (x1 < (0 : Int)) → ((8 : Int) ≤ x1 → Rn sx L K0 R0 58 1 [vR 76, vI x1, vU] [] M Q) ∧ (¬ ((8 : Int) ≤ x1) → ((0 : Int) ≤ x1 ∧ x1 < (8 : Int)) ∧ (Rn sx L K0 R0 58 2 [vR 76, vI x1, vU] [vI (M 101 x1)] M Q)))) : Rn sx L K0 R0 58 0 [vR 76, vI x1, vU] [] M Q := by
  refine Rn_w (by decide) ?_
  show wpc sx L K0 R0 58 [(0, 1, .iload_n 1, []), (1, 3, .ifCond .lt 18, [1]), (4, 1, .iload_n 1, []), (5, 2, .bipush 8, []), (7, 3, .if_icmp .ge 12, [1]), (10, 1, .aload_n 0, []), (11, 3, .getfield 18, [4, 5, 520]), (14, 1, .iload_n 1, []), (15, 1, .iaload, []), (16, 3, .goto 4, [2])] 0 [vR 76, vI x1, vU] [] M Q
  simp only [w_il_1, w_if_lt, w_bipush, w_ic_ge, w_al_0, w_gf_4_5, kin_T (ks_74), rs_74_5, w_iald, arr_T (ks_101), w_goto, true_and, and_true, true_or, or_true]
  exact h
theorem b_58_1 {sx : Int → Int} {L : Nat} {x1 : Int} {M : Mem} {Q : Option AV → Mem → Prop} 
    (h : Rn sx L K0 R0 58 2 [vR 76, vI x1, vU] [vI 0] M Q) : Rn sx L K0 R0 58 1 [vR 76, vI x1, vU] [] M Q := by
  refine Rn_w (by decide) ?_
  show wpc sx L K0 R0 58 [(19, 1, .iconst 0, [])] 2 [vR 76, vI x1, vU] [] M Q
  simp only [w_iconst, w_fall, true_and, and_true, true_or, or_true]
  exact h
theorem b_58_2 {sx : Int → Int} {L : Nat} {x1 : Int} {y0 : Int} {M : Mem} {Q : Option AV → Mem → Prop} 
    (h : Mq sx L K0 R0 125 [vI y0] M (fun rv M1 => ∃ r1, rv = some (vI r1) ∧ ((r1 = (0 : Int) → Rn sx L K0 R0 58 3 [vR 76, vI x1, vI y0] [] M1 Q) ∧ (¬ (r1 = (0 : Int)) → Rn sx L K0 R0 58 4 [vR 76, vI x1, vI y0] [vI y0] M1 Q)))) : Rn sx L K0 R0 58 2 [vR 76, vI x1, vU] [vI y0] M Q := by
  refine Rn_w (by decide) ?_
  show wpc sx L K0 R0 58 [(20, 1, .istore_n 2, []), (21, 1, .iload_n 2, []), (22, 3, .invokestatic 87, [125, 976, 1]), (25, 3, .ifCond .eq 7, [3]), (28, 1, .iload_n 2, []), (29, 3, .goto 4, [4])] 0 [vR 76, vI x1, vU] [vI y0] M Q
  simp only [w_is_2 (c2I _), w_il_2, w_ivs_1 (c2I _) cs0, rk_125, rvk2, List.cons_append, List.nil_append, w_if_eq, w_goto, true_and, and_true, true_or, or_true]
  exact h
theorem b_58_3 {sx : Int → Int} {L : Nat} {x1 : Int} {x2 : Int} {M : Mem} {Q : Option AV → Mem → Prop} 
    (h : Rn sx L K0 R0 58 4 [vR 76, vI x1, vI x2] [vI 0] M Q) : Rn sx L K0 R0 58 3 [vR 76, vI x1, vI x2] [] M Q := by
  refine Rn_w (by decide) ?_
  show wpc sx L K0 R0 58 [(32, 1, .iconst 0, [])] 4 [vR 76, vI x1, vI x2] [] M Q
  simp only [w_iconst, w_fall, true_and, and_true, true_or, or_true]
  exact h
theorem b_58_4 {sx : Int → Int} {L : Nat} {x1 : Int} {x2 : Int} {y0 : Int} {M : Mem} {Q : Option AV → Mem → Prop} 
    (h : Q (some (vI y0)) M) : Rn sx L K0 R0 58 4 [vR 76, vI x1, vI x2] [vI y0] M Q := by
  refine Rn_w (by decide) ?_
  show wpc sx L K0 R0 58 [(33, 1, .ireturn, [])] 0 [vR 76, vI x1, vI x2] [vI y0] M Q
  simp only [w_ret1 rk_58, true_and, and_true, true_or, or_true]
  exact h
theorem b_59_0 {sx : Int → Int} {L : Nat}  {M : Mem} {Q : Option AV → Mem → Prop} 
    (h : Rn sx L K0 R0 59 1 [vR 76, vI 0, vI 0] [] M Q) : Rn sx L K0 R0 59 0 [vR 76, vU, vU] [] M Q := by
  refine Rn_w (by decide) ?_
  show wpc sx L K0 R0 59 [(0, 1, .iconst 0, []), (1, 1, .istore_n 1, []), (2, 1, .iconst 0, []), (3, 1, .istore_n 2, [])] 1 [vR 76, vU, vU] [] M Q
  simp only [w_iconst, w_is_1 (c2R _), w_is_2 (c2I _), w_fall, true_and, and_true, true_or, or_true]
  exact h
theorem b_59_1 {sx : Int → Int} {L : Nat} {x1 : Int} {x2 : Int} {M : Mem} {Q : Option AV → Mem → Prop} 
    (h : ((8 : Int) ≤ x2 → Rn sx L K0 R0 59 3 [vR 76, vI x1, vI x2] [] M Q) ∧ (¬ ((8 : Int) ≤ x2) → Mq sx L K0 R0 78 [vR 8, vI x2] M (fun rv M1 => ∃ r1, rv = some (vI r1) ∧ ((r1 = (0 : Int) → Rn sx L K0 R0 59 2 [vR 76, vI x1, vI x2] [] M1 Q) ∧ (¬ (r1 = (0 : Int)) → ((0 : Int) ≤ x1 ∧ x1 < (8 : Int)) ∧ (inR (x1 + 1) ∧ (Rn sx L K0 R0 59 2 [vR 76, vI (x1 + 1), vI x2] [] (mset M1 101 x1 x2) Q))))))) : Rn sx L K0 R0 59 1 [vR 76, vI x1, vI x2] [] M Q := by
  refine Rn_w (by decide) ?_
  show wpc sx L K0 R0 59 [(4, 1, .iload_n 2, []), (5, 2, .bipush 8, []), (7, 3, .if_icmp .ge 30, [3]), (10, 1, .aload_n 0, []), (11, 3, .getfield 28, [4, 0, 515]), (14, 1, .iload_n 2, []), (15, 3, .invokevirtual 90, [78, 971, 1]), (18, 3, .ifCond .eq 13, [2]), (21, 1, .aload_n 0, []), (22, 3, .getfield 18, [4, 5, 520]), (25, 1, .iload_n 1, []), (26, 1, .iload_n 2, []), (27, 1, .iastore, []), (28, 3, .iinc 1 1, [])] 2 [vR 76, vI x1, vI x2] [] M Q
  simp only [w_il_2, w_bipush, w_ic_ge, w_al_0, w_gf_4_0, kin_T (ks_74), rs_74_0, w_ivv_1 (c2I _) cs0, mk_78, kin_T (ks_6), rk_78, rvk2, List.cons_append, List.nil_append, w_if_eq, w_gf_4_5, rs_74_5, w_il_1, w_iast, arr_T (ks_101), w_inc_1 (c2R _), w_fall, true_and, and_true, true_or, or_true]
  exact h
theorem b_59_2 {sx : Int → Int} {L : Nat} {x1 : Int} {x2 : Int} {M : Mem} {Q : Option AV → Mem → Prop} 
    (h : inR (x2 + 1) ∧ (Rn sx L K0 R0 59 1 [vR 76, vI x1, vI (x2 + 1)] [] M Q)) : Rn sx L K0 R0 59 2 [vR 76, vI x1, vI x2] [] M Q := by
  refine Rn_w (by decide) ?_
  show wpc sx L K0 R0 59 [(31, 3, .iinc 2 1, []), (34, 3, .goto (-30), [1])] 0 [vR 76, vI x1, vI x2] [] M Q
  simp only [w_inc_2 (c2I _), w_goto, true_and, and_true, true_or, or_true]
  exact h
theorem b_59_3 {sx : Int → Int} {L : Nat} {x1 : Int} {x2 : Int} {M : Mem} {Q : Option AV → Mem → Prop} 
    (h : Q (some (vI x1)) M) : Rn sx L K0 R0 59 3 [vR 76, vI x1, vI x2] [] M Q := by
  refine Rn_w (by decide) ?_
  show wpc sx L K0 R0 59 [(37, 1, .iload_n 1, []), (38, 1, .ireturn, [])] 0 [vR 76, vI x1, vI x2] [] M Q
  simp only [w_il_1, w_ret1 rk_59, true_and, and_true, true_or, or_true]
  exact h
theorem b_60_0 {sx : Int → Int} {L : Nat} {x1 : Int} {M : Mem} {Q : Option AV → Mem → Prop} 
    (h : inR (x1 - 2) ∧ (Rn sx L K0 R0 60 1 [vR 76, vI x1, vI (x1 - 2), vU, vU, vU] [] M Q)) : Rn sx L K0 R0 60 0 [vR 76, vI x1, vU, vU, vU, vU] [] M Q := by
  refine Rn_w (by decide) ?_
  show wpc sx L K0 R0 60 [(0, 1, .iload_n 1, []), (1, 1, .iconst 2, []), (2, 1, .isub, []), (3, 1, .istore_n 2, [])] 1 [vR 76, vI x1, vU, vU, vU, vU] [] M Q
  simp only [w_il_1, w_iconst, w_isub, w_is_2 (c2I _), w_fall, true_and, and_true, true_or, or_true]
  exact h
theorem b_60_1 {sx : Int → Int} {L : Nat} {x1 : Int} {x2 : Int} {M : Mem} {Q : Option AV → Mem → Prop} 
    (h : (x2 < (0 : Int) → Rn sx L K0 R0 60 2 [vR 76, vI x1, vI x2, vU, vU, vU] [] M Q) ∧ (¬ (x2 < (0 : Int)) → Mq sx L K0 R0 58 [vR 76, vI x2] M (fun rv M1 => ∃ r1, rv = some (vI r1) ∧ (inR (x2 + 1) ∧ (Mq sx L K0 R0 58 [vR 76, vI (x2 + 1)] M1 (fun rv M2 => ∃ r2, rv = some (vI r2) ∧ ((r1 ≤ r2 → Rn sx L K0 R0 60 2 [vR 76, vI x1, vI x2, vU, vU, vU] [] M2 Q) ∧ (¬ (r1 ≤ r2) → inR (x2 + -1) ∧ (Rn sx L K0 R0 60 1 [vR 76, vI x1, vI (x2 + -1), vU, vU, vU] [] M2 Q))))))))) : Rn sx L K0 R0 60 1 [vR 76, vI x1, vI x2, vU, vU, vU] [] M Q := by
  refine Rn_w (by decide) ?_
  show wpc sx L K0 R0 60 [(4, 1, .iload_n 2, []), (5, 3, .ifCond .lt 24, [2]), (8, 1, .aload_n 0, []), (9, 1, .iload_n 2, []), (10, 3, .invokevirtual 63, [58, 972, 1]), (13, 1, .aload_n 0, []), (14, 1, .iload_n 2, []), (15, 1, .iconst 1, []), (16, 1, .iadd, []), (17, 3, .invokevirtual 63, [58, 972, 1]), (20, 3, .if_icmp .le 9, [2]), (23, 3, .iinc 2 (-1), []), (26, 3, .goto (-22), [1])] 0 [vR 76, vI x1, vI x2, vU, vU, vU] [] M Q
  simp only [w_il_2, w_if_lt, w_al_0, w_ivv_1 (c2I _) cs0, mk_58, kin_T (ks_74), rk_58, rvk1, List.cons_append, List.nil_append, w_iconst, w_iadd, w_ivv_1 (c2I _) (cs1 _), w_ic_le, w_inc_2 (c2I _), w_goto, true_and, and_true, true_or, or_true]
  exact h
theorem b_60_2 {sx : Int → Int} {L : Nat} {x1 : Int} {x2 : Int} {M : Mem} {Q : Option AV → Mem → Prop} 
    (h : (x2 < (0 : Int) → Rn sx L K0 R0 60 3 [vR 76, vI x1, vI x2, vU, vU, vU] [] M Q) ∧ (¬ (x2 < (0 : Int)) → (x1 ≤ (8 : Int) → Rn sx L K0 R0 60 4 [vR 76, vI x1, vI x2, vU, vU, vU] [] M Q) ∧ (¬ (x1 ≤ (8 : Int)) → Rn sx L K0 R0 60 3 [vR 76, vI x1, vI x2, vU, vU, vU] [] M Q))) : Rn sx L K0 R0 60 2 [vR 76, vI x1, vI x2, vU, vU, vU] [] M Q := by
  refine Rn_w (by decide) ?_
  show wpc sx L K0 R0 60 [(29, 1, .iload_n 2, []), (30, 3, .ifCond .lt 9, [3]), (33, 1, .iload_n 1, []), (34, 2, .bipush 8, []), (36, 3, .if_icmp .le 5, [4])] 3 [vR 76, vI x1, vI x2, vU, vU, vU] [] M Q
  simp only [w_il_2, w_if_lt, w_il_1, w_bipush, w_ic_le, w_fall, true_and, and_true, true_or, or_true]
  exact h
theorem b_60_3 {sx : Int → Int} {L : Nat} {x1 : Int} {x2 : Int} {M : Mem} {Q : Option AV → Mem → Prop} 
    (h : Q (some (vI 0)) M) : Rn sx L K0 R0 60 3 [vR 76, vI x1, vI x2, vU, vU, vU] [] M Q := by
  refine Rn_w (by decide) ?_
  show wpc sx L K0 R0 60 [(39, 1, .iconst 0, []), (40, 1, .ireturn, [])] 0 [vR 76, vI x1, vI x2, vU, vU, vU] [] M Q
  simp only [w_iconst, w_ret2 rk_60, b01_0, true_and, and_true, true_or, or_true]
  exact h
theorem b_60_4 {sx : Int → Int} {L : Nat} {x1 : Int} {x2 : Int} {M : Mem} {Q : Option AV → Mem → Prop} 
    (h : inR (x1 - 1) ∧ (Rn sx L K0 R0 60 5 [vR 76, vI x1, vI x2, vI (x1 - 1), vU, vU] [] M Q)) : Rn sx L K0 R0 60 4 [vR 76, vI x1, vI x2, vU, vU, vU] [] M Q := by
  refine Rn_w (by decide) ?_
  show wpc sx L K0 R0 60 [(41, 1, .iload_n 1, []), (42, 1, .iconst 1, []), (43, 1, .isub, []), (44, 1, .istore_n 3, [])] 5 [vR 76, vI x1, vI x2, vU, vU, vU] [] M Q
  simp only [w_il_1, w_iconst, w_isub, w_is_3 (c2I _), w_fall, true_and, and_true, true_or, or_true]
  exact h
theorem b_60_5 {sx : Int → Int} {L : Nat} {x1 : Int} {x2 : Int} {x3 : Int} {M : Mem} {Q : Option AV → Mem → Prop} 
    (h : (x3 ≤ x2 → Rn sx L K0 R0 60 6 [vR 76, vI x1, vI x2, vI x3, vU, vU] [] M Q) ∧ (¬ (x3 ≤ x2) → Mq sx L K0 R0 58 [vR 76, vI x3] M (fun rv M1 => ∃ r1, rv = some (vI r1) ∧ (Mq sx L K0 R0 58 [vR 76, vI x2] M1 (fun rv M2 => ∃ r2, rv = some (vI r2) ∧ ((r2 ≤ r1 → Rn sx L K0 R0 60 6 [vR 76, vI x1, vI x2, vI x3, vU, vU] [] M2 Q) ∧ (¬ (r2 ≤ r1) → inR (x3 + -1) ∧ (Rn sx L K0 R0 60 5 [vR 76, vI x1, vI x2, vI (x3 + -1), vU, vU] [] M2 Q)))))))) : Rn sx L K0 R0 60 5 [vR 76, vI x1, vI x2, vI x3, vU, vU] [] M Q := by
  refine Rn_w (by decide) ?_
  show wpc sx L K0 R0 60 [(45, 1, .iload_n 3, []), (46, 1, .iload_n 2, []), (47, 3, .if_icmp .le 22, [6]), (50, 1, .aload_n 0, []), (51, 1, .iload_n 3, []), (52, 3, .invokevirtual 63, [58, 972, 1]), (55, 1, .aload_n 0, []), (56, 1, .iload_n 2, []), (57, 3, .invokevirtual 63, [58, 972, 1]), (60, 3, .if_icmp .ge 9, [6]), (63, 3, .iinc 3 (-1), []), (66, 3, .goto (-21), [5])] 0 [vR 76, vI x1, vI x2, vI x3, vU, vU] [] M Q
  simp only [w_il_3, w_il_2, w_ic_le, w_al_0, w_ivv_1 (c2I _) cs0, mk_58, kin_T (ks_74), rk_58, rvk1, List.cons_append, List.nil_append, w_ivv_1 (c2I _) (cs1 _), w_ic_ge, w_inc_3 (c2I _), w_goto, true_and, and_true, true_or, or_true]
  exact h
theorem b_60_6 {sx : Int → Int} {L : Nat} {x1 : Int} {x2 : Int} {x3 : Int} {M : Mem} {Q : Option AV → Mem → Prop} 
    (h : Mq sx L K0 R0 61 [vR 76, vI x2, vI x3] M (fun rv M1 => rv = none ∧ (inR (x2 + 1) ∧ (inR (x1 - 1) ∧ (Rn sx L K0 R0 60 7 [vR 76, vI x1, vI x2, vI x3, vI (x2 + 1), vI (x1 - 1)] [] M1 Q))))) : Rn sx L K0 R0 60 6 [vR 76, vI x1, vI x2, vI x3, vU, vU] [] M Q := by
  refine Rn_w (by decide) ?_
  show wpc sx L K0 R0 60 [(69, 1, .aload_n 0, []), (70, 1, .iload_n 2, []), (71, 1, .iload_n 3, []), (72, 3, .invokevirtual 93, [61, 986, 2]), (75, 1, .iload_n 2, []), (76, 1, .iconst 1, []), (77, 1, .iadd, []), (78, 2, .istore 4, []), (80, 1, .iload_n 1, []), (81, 1, .iconst 1, []), (82, 1, .isub, []), (83, 2, .istore 5, [])] 7 [vR 76, vI x1, vI x2, vI x3, vU, vU] [] M Q
  simp only [w_al_0, w_il_2, w_il_3, w_ivv_2 (c2I _) (c2I _) cs0, mk_61, kin_T (ks_74), rk_61, rvk0, List.nil_append, w_iconst, w_iadd, w_is_4 (c2I _), w_il_1, w_isub, w_is_5 (c2I _), w_fall, true_and, and_true, true_or, or_true]
  exact h
theorem b_60_7 {sx : Int → Int} {L : Nat} {x1 : Int} {x2 : Int} {x3 : Int} {x4 : Int} {x5 : Int} {M : Mem} {Q : Option AV → Mem → Prop} 
    (h : (x5 ≤ x4 → Rn sx L K0 R0 60 8 [vR 76, vI x1, vI x2, vI x3, vI x4, vI x5] [] M Q) ∧ (¬ (x5 ≤ x4) → Mq sx L K0 R0 61 [vR 76, vI x4, vI x5] M (fun rv M1 => rv = none ∧ (inR (x4 + 1) ∧ (inR (x5 + -1) ∧ (Rn sx L K0 R0 60 7 [vR 76, vI x1, vI x2, vI x3, vI (x4 + 1), vI (x5 + -1)] [] M1 Q)))))) : Rn sx L K0 R0 60 7 [vR 76, vI x1, vI x2, vI x3, vI x4, vI x5] [] M Q := by
  refine Rn_w (by decide) ?_
  show wpc sx L K0 R0 60 [(85, 2, .iload 4, []), (87, 2, .iload 5, []), (89, 3, .if_icmp .ge 20, [8]), (92, 1, .aload_n 0, []), (93, 2, .iload 4, []), (95, 2, .iload 5, []), (97, 3, .invokevirtual 93, [61, 986, 2]), (100, 3, .iinc 4 1, []), (103, 3, .iinc 5 (-1), []), (106, 3, .goto (-21), [7])] 0 [vR 76, vI x1, vI x2, vI x3, vI x4, vI x5] [] M Q
  simp only [w_il_4, w_il_5, w_ic_ge, w_al_0, w_ivv_2 (c2I _) (c2I _) cs0, mk_61, kin_T (ks_74), rk_61, rvk0, List.nil_append, w_inc_4 (c2I _), w_inc_5 (c2I _), w_goto, true_and, and_true, true_or, or_true]
  exact h
theorem b_60_8 {sx : Int → Int} {L : Nat} {x1 : Int} {x2 : Int} {x3 : Int} {x4 : Int} {x5 : Int} {M : Mem} {Q : Option AV → Mem → Prop} 
    (h : Q (some (vI 1)) M) : Rn sx L K0 R0 60 8 [vR 76, vI x1, vI x2, vI x3, vI x4, vI x5] [] M Q := by
  refine Rn_w (by decide) ?_
  show wpc sx L K0 R0 60 [(109, 1, .iconst 1, []), (110, 1, .ireturn, [])] 0 [vR 76, vI x1, vI x2, vI x3, vI x4, vI x5] [] M Q
  simp only [w_iconst, w_ret2 rk_60, b01_1, true_and, and_true, true_or, or_true]
  exact h
set_option maxRecDepth 8192 in
theorem b_61_0 {sx : Int → Int} {L : Nat} {x1 : Int} {x2 : Int} {M : Mem} {Q : Option AV → Mem → Prop} 
    (h : (x1 < (0 : Int) → Rn sx L K0 R0 61 1 [vR 76, vI x1, vI x2, vU] [] M Q) ∧ (¬ (x1 < (0 : Int)) → ((8 : Int) ≤ x1 → Rn sx L K0 R0 61 1 [vR 76, vI x1, vI x2, vU] [] M Q) ∧ (¬ ((8 : Int) ≤ x1) → (x2 < (0 : Int) → Rn sx L K0 R0 61 1 [vR 76, vI x1, vI x2, vU] [] M Q) ∧ (¬ (x2 < (0 : Int)) → ((8 : Int) ≤ x2 → Rn sx L K0 R0 61 1 [vR 76, vI x1, vI x2, vU] [] M Q) ∧ (¬ ((8 : Int) ≤ x2) → ((0 : Int) ≤ x1 ∧ x1 < (8 : Int)) ∧ (((0 : Int) ≤ x2 ∧ x2 < (8 : Int)) ∧ (((0 : Int) ≤ x1 ∧ x1 < (8 : Int)) ∧ (((0 : Int) ≤ x2 ∧ x2 < (8 : Int)) ∧ (Rn sx L K0 R0 61 1 [vR 76, vI x1, vI x2, vI (M 101 x1)] [] (mset (mset M 101 x1 (M 101 x2)) 101 x2 (M 101 x1)) Q))))))))) : Rn sx L K0 R0 61 0 [vR 76, vI x1, vI x2, vU] [] M Q := by
  refine Rn_w (by decide) ?_
  show wpc sx L K0 R0 61 [(0, 1, .iload_n 1, []), (1, 3, .ifCond .lt 45, [1]), (4, 1, .iload_n 1, []), (5, 2, .bipush 8, []), (7, 3, .if_icmp .ge 39, [1]), (10, 1, .iload_n 2, []), (11, 3, .ifCond .lt 35, [1]), (14, 1, .iload_n 2, []), (15, 2, .bipush 8, []), (17, 3, .if_icmp .ge 29, [1]), (20, 1, .aload_n 0, []), (21, 3, .getfield 18, [4, 5, 520]), (24, 1, .iload_n 1, []), (25, 1, .iaload, []), (26, 1, .istore_n 3, []), (27, 1, .aload_n 0, []), (28, 3, .getfield 18, [4, 5, 520]), (31, 1, .iload_n 1, []), (32, 1, .aload_n 0, []), (33, 3, .getfield 18, [4, 5, 520]), (36, 1, .iload_n 2, []), (37, 1, .iaload, []), (38, 1, .iastore, []), (39, 1, .aload_n 0, []), (40, 3, .getfield 18, [4, 5, 520]), (43, 1, .iload_n 2, []), (44, 1, .iload_n 3, []), (45, 1, .iastore, [])] 1 [vR 76, vI x1, vI x2, vU] [] M Q
  simp only [w_il_1, w_if_lt, w_bipush, w_ic_ge, w_il_2, w_al_0, w_gf_4_5, kin_T (ks_74), rs_74_5, w_iald, arr_T (ks_101), w_is_3 (c2I _), w_iast, w_il_3, w_fall, true_and, and_true, true_or, or_true]
  exact h
theorem b_61_1 {sx : Int → Int} {L : Nat} {x1 : Int} {x2 : Int} {u3 : AV} {M : Mem} {Q : Option AV → Mem → Prop} (hu3 : cat2 u3 = false)
    (h : Q none M) : Rn sx L K0 R0 61 1 [vR 76, vI x1, vI x2, u3] [] M Q := by
  refine Rn_w (by decide) ?_
  show wpc sx L K0 R0 61 [(46, 1, .return_, [])] 0 [vR 76, vI x1, vI x2, u3] [] M Q
  simp only [w_ret0 rk_61, true_and, and_true, true_or, or_true]
  exact h
theorem b_62_0 {sx : Int → Int} {L : Nat} {x1 : Int} {x2 : Int} {M : Mem} {Q : Option AV → Mem → Prop} 
    (h : Mq sx L K0 R0 75 [vR 99, vR 8] M (fun rv M1 => rv = none ∧ (Rn sx L K0 R0 62 1 [vR 76, vI x1, vI x2, vI 0] [] (mset (mset M1 97 8 x1) 97 9 x2) Q))) : Rn sx L K0 R0 62 0 [vR 76, vI x1, vI x2, vU] [] M Q := by
  refine Rn_w (by decide) ?_
  show wpc sx L K0 R0 62 [(0, 1, .aload_n 0, []), (1, 3, .getfield 12, [4, 1, 516]), (4, 1, .aload_n 0, []), (5, 3, .getfield 28, [4, 0, 515]), (8, 3, .invokevirtual 52, [75, 963, 1]), (11, 1, .aload_n 0, []), (12, 3, .getfield 12, [4, 1, 516]), (15, 1, .iload_n 1, []), (16, 3, .putfield 97, [5, 8, 231]), (19, 1, .aload_n 0, []), (20, 3, .getfield 12, [4, 1, 516]), (23, 1, .iload_n 2, []), (24, 3, .putfield 100, [5, 9, 234]), (27, 1, .iconst 0, []), (28, 1, .istore_n 3, [])] 1 [vR 76, vI x1, vI x2, vU] [] M Q
  simp only [w_al_0, w_gf_4_1, kin_T (ks_74), rs_74_1, w_gf_4_0, rs_74_0, w_ivv_1 (c2R _) cs0, mk_75, kin_T (ks_97), rk_75, rvk0, List.nil_append, w_il_1, w_pf_5_8, w_il_2, w_pf_5_9, w_iconst, w_is_3 (c2I _), w_fall, true_and, and_true, true_or, or_true]
  exact h
theorem b_62_1 {sx : Int → Int} {L : Nat} {x1 : Int} {x2 : Int} {x3 : Int} {M : Mem} {Q : Option AV → Mem → Prop} 
    (h : ((20 : Int) < x3 → Rn sx L K0 R0 62 3 [vR 76, vI x1, vI x2, vI x3] [] M Q) ∧ (¬ ((20 : Int) < x3) → Mq sx L K0 R0 36 [vR 77, vR 99, vI ((mset M 97 10 x3) 97 7), vI 1] (mset M 97 10 x3) (fun rv M1 => rv = none ∧ ((M1 75 17 = (0 : Int) → Rn sx L K0 R0 62 2 [vR 76, vI x1, vI x2, vI x3] [] M1 Q) ∧ (¬ (M1 75 17 = (0 : Int)) → inR (x3 - 1) ∧ (Q (some (vI (x3 - 1))) M1)))))) : Rn sx L K0 R0 62 1 [vR 76, vI x1, vI x2, vI x3] [] M Q := by
  refine Rn_w (by decide) ?_
  show wpc sx L K0 R0 62 [(29, 1, .iload_n 3, []), (30, 2, .bipush 20, []), (32, 3, .if_icmp .gt 50, [3]), (35, 1, .aload_n 0, []), (36, 3, .getfield 12, [4, 1, 516]), (39, 1, .iload_n 3, []), (40, 3, .putfield 103, [5, 10, 237]), (43, 1, .aload_n 0, []), (44, 3, .getfield 31, [4, 2, 517]), (47, 1, .aload_n 0, []), (48, 3, .getfield 12, [4, 1, 516]), (51, 1, .aload_n 0, []), (52, 3, .getfield 12, [4, 1, 516]), (55, 3, .getfield 67, [5, 7, 227]), (58, 1, .iconst 1, []), (59, 3, .invokevirtual 70, [36, 977, 3]), (62, 1, .aload_n 0, []), (63, 3, .getfield 31, [4, 2, 517]), (66, 3, .getfield 76, [3, 17, 469]), (69, 3, .ifCond .eq 7, [2]), (72, 1, .iload_n 3, []), (73, 1, .iconst 1, []), (74, 1, .isub, []), (75, 1, .ireturn, [])] 0 [vR 76, vI x1, vI x2, vI x3] [] M Q
  simp only [w_il_3, w_bipush, w_ic_gt, w_al_0, w_gf_4_1, kin_T (ks_74), rs_74_1, w_pf_5_10, kin_T (ks_97), w_gf_4_2, rs_74_2, w_gf_5_7, w_iconst, w_ivv_3 (c2I _) (c2I _) (c2R _) cs0, mk_36, kin_T (ks_75), rk_36, rvk0, List.nil_append, w_gf_3_17, w_if_eq, w_isub, w_ret1 rk_62, true_and, and_true, true_or, or_true]
  exact h
theorem b_62_2 {sx : Int → Int} {L : Nat} {x1 : Int} {x2 : Int} {x3 : Int} {M : Mem} {Q : Option AV → Mem → Prop} 
    (h : inR (x3 + 1) ∧ (Rn sx L K0 R0 62 1 [vR 76, vI x1, vI x2, vI (x3 + 1)] [] M Q)) : Rn sx L K0 R0 62 2 [vR 76, vI x1, vI x2, vI x3] [] M Q := by
  refine Rn_w (by decide) ?_
  show wpc sx L K0 R0 62 [(76, 3, .iinc 3 1, []), (79, 3, .goto (-50), [1])] 0 [vR 76, vI x1, vI x2, vI x3] [] M Q
  simp only [w_inc_3 (c2I _), w_goto, true_and, and_true, true_or, or_true]
  exact h
theorem b_62_3 {sx : Int → Int} {L : Nat} {x1 : Int} {x2 : Int} {x3 : Int} {M : Mem} {Q : Option AV → Mem → Prop} 
    (h : Q (some (vI 20)) M) : Rn sx L K0 R0 62 3 [vR 76, vI x1, vI x2, vI x3] [] M Q := by
  refine Rn_w (by decide) ?_
  show wpc sx L K0 R0 62 [(82, 2, .bipush 20, []), (84, 1, .ireturn, [])] 0 [vR 76, vI x1, vI x2, vI x3] [] M Q
  simp only [w_bipush, w_ret1 rk_62, true_and, and_true, true_or, or_true]
  exact h
theorem b_63_0 {sx : Int → Int} {L : Nat}  {M : Mem} {Q : Option AV → Mem → Prop} 
    (h : (M 74 6 = (0 : Int) → Rn sx L K0 R0 63 1 [vR 76, vU] [] M Q) ∧ (¬ (M 74 6 = (0 : Int)) → Q none M)) : Rn sx L K0 R0 63 0 [vR 76, vU] [] M Q := by
  refine Rn_w (by decide) ?_
  show wpc sx L K0 R0 63 [(0, 1, .aload_n 0, []), (1, 3, .getfield 39, [4, 6, 521]), (4, 3, .ifCond .eq 4, [1]), (7, 1, .return_, [])] 0 [vR 76, vU] [] M Q
  simp only [w_al_0, w_gf_4_6, kin_T (ks_74), w_if_eq, w_ret0 rk_63, true_and, and_true, true_or, or_true]
  exact h
theorem b_63_1 {sx : Int → Int} {L : Nat}  {M : Mem} {Q : Option AV → Mem → Prop} 
    (h : Mq sx L K0 R0 75 [vR 99, vR 8] (mset M 74 6 1) (fun rv M1 => rv = none ∧ (Mq sx L K0 R0 226 [vI ((mset (mset M1 74 7 (M1 6 0)) 74 8 0) 6 0)] (mset (mset M1 74 7 (M1 6 0)) 74 8 0) (fun rv M2 => ∃ r1, rv = some (vI r1) ∧ (Rn sx L K0 R0 63 2 [vR 76, vI 0] [] (mset M2 74 9 r1) Q))))) : Rn sx L K0 R0 63 1 [vR 76, vU] [] M Q := by
  refine Rn_w (by decide) ?_
  show wpc sx L K0 R0 63 [(8, 1, .aload_n 0, []), (9, 1, .iconst 1, []), (10, 3, .putfield 39, [4, 6, 521]), (13, 1, .aload_n 0, []), (14, 3, .getfield 12, [4, 1, 516]), (17, 1, .aload_n 0, []), (18, 3, .getfield 28, [4, 0, 515]), (21, 3, .invokevirtual 52, [75, 963, 1]), (24, 1, .aload_n 0, []), (25, 1, .aload_n 0, []), (26, 3, .getfield 28, [4, 0, 515]), (29, 3, .getfield 106, [5, 0, 202]), (32, 3, .putfield 109, [4, 7, 522]), (35, 1, .aload_n 0, []), (36, 1, .iconst 0, []), (37, 3, .putfield 112, [4, 8, 524]), (40, 1, .aload_n 0, []), (41, 1, .aload_n 0, []), (42, 3, .getfield 28, [4, 0, 515]), (45, 3, .getfield 106, [5, 0, 202]), (48, 3, .invokestatic 115, [226, 1011, 1]), (51, 3, .putfield 120, [4, 9, 526]), (54, 1, .iconst 0, []), (55, 1, .istore_n 1, [])] 2 [vR 76, vU] [] M Q
  simp only [w_al_0, w_iconst, w_pf_4_6, kin_T (ks_74), b01_1, w_gf_4_1, rs_74_1, w_gf_4_0, rs_74_0, w_ivv_1 (c2R _) cs0, mk_75, kin_T (ks_97), rk_75, rvk0, List.nil_append, w_gf_5_0, kin_T (ks_6), w_pf_4_7, w_pf_4_8, w_ivs_1 (c2I _) (cs1 _), rk_226, rvk1, List.cons_append, w_pf_4_9, w_is_1 (c2R _), w_fall, true_and, and_true, true_or, or_true]
  exact h
theorem b_63_2 {sx : Int → Int} {L : Nat} {x1 : Int} {M : Mem} {Q : Option AV → Mem → Prop} 
    (h : ((256 : Int) ≤ x1 → Rn sx L K0 R0 63 4 [vR 76, vI x1] [] M Q) ∧ (¬ ((256 : Int) ≤ x1) → (¬ iAnd x1 (iXor (M 6 0) (-1)) = (0 : Int) → Rn sx L K0 R0 63 3 [vR 76, vI x1] [] M Q) ∧ (¬ (¬ iAnd x1 (iXor (M 6 0) (-1)) = (0 : Int)) → Mq sx L K0 R0 64 [vR 76, vI x1] M (fun rv M1 => rv = none ∧ (Rn sx L K0 R0 63 3 [vR 76, vI x1] [] M1 Q))))) : Rn sx L K0 R0 63 2 [vR 76, vI x1] [] M Q := by
  refine Rn_w (by decide) ?_
  show wpc sx L K0 R0 63 [(56, 1, .iload_n 1, []), (57, 3, .sipush 256, []), (60, 3, .if_icmp .ge 28, [4]), (63, 1, .iload_n 1, []), (64, 1, .aload_n 0, []), (65, 3, .getfield 28, [4, 0, 515]), (68, 3, .getfield 106, [5, 0, 202]), (71, 1, .iconst (-1), []), (72, 1, .ixor, []), (73, 1, .iand, []), (74, 3, .ifCond .ne 8, [3]), (77, 1, .aload_n 0, []), (78, 1, .iload_n 1, []), (79, 3, .invokevirtual 123, [64, 1012, 1])] 3 [vR 76, vI x1] [] M Q
  simp only [w_il_1, w_sipush, w_ic_ge, w_al_0, w_gf_4_0, kin_T (ks_74), rs_74_0, w_gf_5_0, kin_T (ks_6), w_iconst, w_ixor, w_iand, w_if_ne, w_ivv_1 (c2I _) cs0, mk_64, rk_64, rvk0, List.nil_append, w_fall, true_and, and_true, true_or, or_true]
  exact h
theorem b_63_3 {sx : Int → Int} {L : Nat} {x1 : Int} {M : Mem} {Q : Option AV → Mem → Prop} 
    (h : inR (x1 + 1) ∧ (Rn sx L K0 R0 63 2 [vR 76, vI (x1 + 1)] [] M Q)) : Rn sx L K0 R0 63 3 [vR 76, vI x1] [] M Q := by
  refine Rn_w (by decide) ?_
  show wpc sx L K0 R0 63 [(82, 3, .iinc 1 1, []), (85, 3, .goto (-29), [2])] 0 [vR 76, vI x1] [] M Q
  simp only [w_inc_1 (c2R _), w_goto, true_and, and_true, true_or, or_true]
  exact h
theorem b_63_4 {sx : Int → Int} {L : Nat} {x1 : Int} {M : Mem} {Q : Option AV → Mem → Prop} 
    (h : Q none M) : Rn sx L K0 R0 63 4 [vR 76, vI x1] [] M Q := by
  refine Rn_w (by decide) ?_
  show wpc sx L K0 R0 63 [(88, 1, .return_, [])] 0 [vR 76, vI x1] [] M Q
  simp only [w_ret0 rk_63, true_and, and_true, true_or, or_true]
  exact h
theorem b_64_0 {sx : Int → Int} {L : Nat} {x1 : Int} {M : Mem} {Q : Option AV → Mem → Prop} 
    (h : Rn sx L K0 R0 64 1 [vR 76, vI x1, vI 0, vI 0] [] (mset M 97 0 (iAnd (M 6 0) (iXor x1 (-1)))) Q) : Rn sx L K0 R0 64 0 [vR 76, vI x1, vU, vU] [] M Q := by
  refine Rn_w (by decide) ?_
  show wpc sx L K0 R0 64 [(0, 1, .aload_n 0, []), (1, 3, .getfield 12, [4, 1, 516]), (4, 1, .aload_n 0, []), (5, 3, .getfield 28, [4, 0, 515]), (8, 3, .getfield 106, [5, 0, 202]), (11, 1, .iload_n 1, []), (12, 1, .iconst (-1), []), (13, 1, .ixor, []), (14, 1, .iand, []), (15, 3, .putfield 106, [5, 0, 202]), (18, 1, .iconst 0, []), (19, 1, .istore_n 2, []), (20, 1, .iconst 0, []), (21, 1, .istore_n 3, [])] 1 [vR 76, vI x1, vU, vU] [] M Q
  simp only [w_al_0, w_gf_4_1, kin_T (ks_74), rs_74_1, w_gf_4_0, rs_74_0, w_gf_5_0, kin_T (ks_6), w_il_1, w_iconst, w_ixor, w_iand, w_pf_5_0, kin_T (ks_97), w_is_2 (c2I _), w_is_3 (c2I _), w_fall, true_and, and_true, true_or, or_true]
  exact h
theorem b_64_1 {sx : Int → Int} {L : Nat} {x1 : Int} {x2 : Int} {x3 : Int} {M : Mem} {Q : Option AV → Mem → Prop} 
    (h : ((8 : Int) ≤ x3 → Rn sx L K0 R0 64 3 [vR 76, vI x1, vI x2, vI x3] [] M Q) ∧ (¬ ((8 : Int) ≤ x3) → Mq sx L K0 R0 78 [vR 99, vI x3] M (fun rv M1 => ∃ r1, rv = some (vI r1) ∧ ((r1 = (0 : Int) → Rn sx L K0 R0 64 2 [vR 76, vI x1, vI x2, vI x3] [] M1 Q) ∧ (¬ (r1 = (0 : Int)) → ((0 : Int) ≤ x3 ∧ x3 < (8 : Int)) ∧ (inR (x2 + (M1 99 x3)) ∧ (Rn sx L K0 R0 64 2 [vR 76, vI x1, vI (x2 + (M1 99 x3)), vI x3] [] M1 Q))))))) : Rn sx L K0 R0 64 1 [vR 76, vI x1, vI x2, vI x3] [] M Q := by
  refine Rn_w (by decide) ?_
  show wpc sx L K0 R0 64 [(22, 1, .iload_n 3, []), (23, 2, .bipush 8, []), (25, 3, .if_icmp .ge 32, [3]), (28, 1, .aload_n 0, []), (29, 3, .getfield 12, [4, 1, 516]), (32, 1, .iload_n 3, []), (33, 3, .invokevirtual 90, [78, 971, 1]), (36, 3, .ifCond .eq 15, [2]), (39, 1, .iload_n 2, []), (40, 1, .aload_n 0, []), (41, 3, .getfield 12, [4, 1, 516]), (44, 3, .getfield 127, [5, 2, 210]), (47, 1, .iload_n 3, []), (48, 1, .iaload, []), (49, 1, .iadd, []), (50, 1, .istore_n 2, [])] 2 [vR 76, vI x1, vI x2, vI x3] [] M Q
  simp only [w_il_3, w_bipush, w_ic_ge, w_al_0, w_gf_4_1, kin_T (ks_74), rs_74_1, w_ivv_1 (c2I _) cs0, mk_78, kin_T (ks_97), rk_78, rvk2, List.cons_append, List.nil_append, w_if_eq, w_il_2, w_gf_5_2, (rst2 (c := 97) (by unfold isSt; omega)), w_iald, arr_T (ks_99), w_iadd, w_is_2 (c2I _), w_fall, true_and, and_true, true_or, or_true]
  exact h
theorem b_64_2 {sx : Int → Int} {L : Nat} {x1 : Int} {x2 : Int} {x3 : Int} {M : Mem} {Q : Option AV → Mem → Prop} 
    (h : inR (x3 + 1) ∧ (Rn sx L K0 R0 64 1 [vR 76, vI x1, vI x2, vI (x3 + 1)] [] M Q)) : Rn sx L K0 R0 64 2 [vR 76, vI x1, vI x2, vI x3] [] M Q := by
  refine Rn_w (by decide) ?_
  show wpc sx L K0 R0 64 [(51, 3, .iinc 3 1, []), (54, 3, .goto (-32), [1])] 0 [vR 76, vI x1, vI x2, vI x3] [] M Q
  simp only [w_inc_3 (c2I _), w_goto, true_and, and_true, true_or, or_true]
  exact h
theorem b_64_3 {sx : Int → Int} {L : Nat} {x1 : Int} {x2 : Int} {x3 : Int} {M : Mem} {Q : Option AV → Mem → Prop} 
    (h : Mq sx L K0 R0 226 [vI x1] M (fun rv M1 => ∃ r1, rv = some (vI r1) ∧ ((x2 < M1 74 8 → Rn sx L K0 R0 64 4 [vR 76, vI x1, vI x2, vI r1] [] M1 Q) ∧ (¬ (x2 < M1 74 8) → (¬ x2 = M1 74 8 → Rn sx L K0 R0 64 5 [vR 76, vI x1, vI x2, vI r1] [] M1 Q) ∧ (¬ (¬ x2 = M1 74 8) → (r1 < M1 74 9 → Rn sx L K0 R0 64 5 [vR 76, vI x1, vI x2, vI r1] [] M1 Q) ∧ (¬ (r1 < M1 74 9) → Rn sx L K0 R0 64 4 [vR 76, vI x1, vI x2, vI r1] [] M1 Q)))))) : Rn sx L K0 R0 64 3 [vR 76, vI x1, vI x2, vI x3] [] M Q := by
  refine Rn_w (by decide) ?_
  show wpc sx L K0 R0 64 [(57, 1, .iload_n 1, []), (58, 3, .invokestatic 115, [226, 1011, 1]), (61, 1, .istore_n 3, []), (62, 1, .iload_n 2, []), (63, 1, .aload_n 0, []), (64, 3, .getfield 112, [4, 8, 524]), (67, 3, .if_icmp .lt 19, [4]), (70, 1, .iload_n 2, []), (71, 1, .aload_n 0, []), (72, 3, .getfield 112, [4, 8, 524]), (75, 3, .if_icmp .ne 12, [5]), (78, 1, .iload_n 3, []), (79, 1, .aload_n 0, []), (80, 3, .getfield 120, [4, 9, 526]), (83, 3, .if_icmp .lt 4, [5])] 4 [vR 76, vI x1, vI x2, vI x3] [] M Q
  simp only [w_il_1, w_ivs_1 (c2I _) cs0, rk_226, rvk1, List.cons_append, List.nil_append, w_is_3 (c2I _), w_il_2, w_al_0, w_gf_4_8, kin_T (ks_74), w_ic_lt, w_ic_ne, w_il_3, w_gf_4_9, w_fall, true_and, and_true, true_or, or_true]
  exact h
theorem b_64_4 {sx : Int → Int} {L : Nat} {x1 : Int} {x2 : Int} {x3 : Int} {M : Mem} {Q : Option AV → Mem → Prop} 
    (h : Q none M) : Rn sx L K0 R0 64 4 [vR 76, vI x1, vI x2, vI x3] [] M Q := by
  refine Rn_w (by decide) ?_
  show wpc sx L K0 R0 64 [(86, 1, .return_, [])] 0 [vR 76, vI x1, vI x2, vI x3] [] M Q
  simp only [w_ret0 rk_64, true_and, and_true, true_or, or_true]
  exact h
theorem b_64_5 {sx : Int → Int} {L : Nat} {x1 : Int} {x2 : Int} {x3 : Int} {M : Mem} {Q : Option AV → Mem → Prop} 
    (h : Mq sx L K0 R0 36 [vR 77, vR 99, vI (M 97 7), vI 1] M (fun rv M1 => rv = none ∧ ((¬ M1 75 17 = (0 : Int) → Rn sx L K0 R0 64 6 [vR 76, vI x1, vI x2, vI x3] [] M1 Q) ∧ (¬ (¬ M1 75 17 = (0 : Int)) → Rn sx L K0 R0 64 6 [vR 76, vI x1, vI x2, vI x3] [] (mset (mset (mset M1 74 7 x1) 74 8 x2) 74 9 x3) Q)))) : Rn sx L K0 R0 64 5 [vR 76, vI x1, vI x2, vI x3] [] M Q := by
  refine Rn_w (by decide) ?_
  show wpc sx L K0 R0 64 [(87, 1, .aload_n 0, []), (88, 3, .getfield 31, [4, 2, 517]), (91, 1, .aload_n 0, []), (92, 3, .getfield 12, [4, 1, 516]), (95, 1, .aload_n 0, []), (96, 3, .getfield 12, [4, 1, 516]), (99, 3, .getfield 67, [5, 7, 227]), (102, 1, .iconst 1, []), (103, 3, .invokevirtual 70, [36, 977, 3]), (106, 1, .aload_n 0, []), (107, 3, .getfield 31, [4, 2, 517]), (110, 3, .getfield 76, [3, 17, 469]), (113, 3, .ifCond .ne 18, [6]), (116, 1, .aload_n 0, []), (117, 1, .iload_n 1, []), (118, 3, .putfield 109, [4, 7, 522]), (121, 1, .aload_n 0, []), (122, 1, .iload_n 2, []), (123, 3, .putfield 112, [4, 8, 524]), (126, 1, .aload_n 0, []), (127, 1, .iload_n 3, []), (128, 3, .putfield 120, [4, 9, 526])] 6 [vR 76, vI x1, vI x2, vI x3] [] M Q
  simp only [w_al_0, w_gf_4_2, kin_T (ks_74), rs_74_2, w_gf_4_1, rs_74_1, w_gf_5_7, kin_T (ks_97), w_iconst, w_ivv_3 (c2I _) (c2I _) (c2R _) cs0, mk_36, kin_T (ks_75), rk_36, rvk0, List.nil_append, w_gf_3_17, w_if_ne, w_il_1, w_pf_4_7, w_il_2, w_pf_4_8, w_il_3, w_pf_4_9, w_fall, true_and, and_true, true_or, or_true]
  exact h
theorem b_64_6 {sx : Int → Int} {L : Nat} {x1 : Int} {x2 : Int} {x3 : Int} {M : Mem} {Q : Option AV → Mem → Prop} 
    (h : Q none M) : Rn sx L K0 R0 64 6 [vR 76, vI x1, vI x2, vI x3] [] M Q := by
  refine Rn_w (by decide) ?_
  show wpc sx L K0 R0 64 [(131, 1, .return_, [])] 0 [vR 76, vI x1, vI x2, vI x3] [] M Q
  simp only [w_ret0 rk_64, true_and, and_true, true_or, or_true]
  exact h
theorem b_65_0 {sx : Int → Int} {L : Nat} {x1 : Int} {M : Mem} {Q : Option AV → Mem → Prop} 
    (h : (¬ M 74 10 = x1 → Rn sx L K0 R0 65 1 [vR 76, vI x1, vU, vU, vU] [] M Q) ∧ (¬ (¬ M 74 10 = x1) → Q none M)) : Rn sx L K0 R0 65 0 [vR 76, vI x1, vU, vU, vU] [] M Q := by
  refine Rn_w (by decide) ?_
  show wpc sx L K0 R0 65 [(0, 1, .aload_n 0, []), (1, 3, .getfield 42, [4, 10, 527]), (4, 1, .iload_n 1, []), (5, 3, .if_icmp .ne 4, [1]), (8, 1, .return_, [])] 0 [vR 76, vI x1, vU, vU, vU] [] M Q
  simp only [w_al_0, w_gf_4_10, kin_T (ks_74), w_il_1, w_ic_ne, w_ret0 rk_65, true_and, and_true, true_or, or_true]
  exact h
theorem b_65_1 {sx : Int → Int} {L : Nat} {x1 : Int} {M : Mem} {Q : Option AV → Mem → Prop} 
    (h : Mq sx L K0 R0 75 [vR 99, vR 8] (mset M 74 10 x1) (fun rv M1 => rv = none ∧ (Rn sx L K0 R0 65 2 [vR 76, vI x1, vI 0, vU, vU] [] (mset M1 74 12 0) Q))) : Rn sx L K0 R0 65 1 [vR 76, vI x1, vU, vU, vU] [] M Q := by
  refine Rn_w (by decide) ?_
  show wpc sx L K0 R0 65 [(9, 1, .aload_n 0, []), (10, 1, .iload_n 1, []), (11, 3, .putfield 42, [4, 10, 527]), (14, 1, .aload_n 0, []), (15, 3, .getfield 12, [4, 1, 516]), (18, 1, .aload_n 0, []), (19, 3, .getfield 28, [4, 0, 515]), (22, 3, .invokevirtual 52, [75, 963, 1]), (25, 1, .aload_n 0, []), (26, 1, .iconst 0, []), (27, 3, .putfield 130, [4, 12, 530]), (30, 1, .iconst 0, []), (31, 1, .istore_n 2, [])] 2 [vR 76, vI x1, vU, vU, vU] [] M Q
  simp only [w_al_0, w_il_1, w_pf_4_10, kin_T (ks_74), w_gf_4_1, rs_74_1, w_gf_4_0, rs_74_0, w_ivv_1 (c2R _) cs0, mk_75, kin_T (ks_97), rk_75, rvk0, List.nil_append, w_iconst, w_pf_4_12, w_is_2 (c2I _), w_fall, true_and, and_true, true_or, or_true]
  exact h
theorem b_65_2 {sx : Int → Int} {L : Nat} {x1 : Int} {x2 : Int} {M : Mem} {Q : Option AV → Mem → Prop} 
    (h : ((8 : Int) ≤ x2 → Rn sx L K0 R0 65 3 [vR 76, vI x1, vI x2, vU, vU] [] M Q) ∧ (¬ ((8 : Int) ≤ x2) → ((0 : Int) ≤ x2 ∧ x2 < (8 : Int)) ∧ (inR (x2 + 1) ∧ (Rn sx L K0 R0 65 2 [vR 76, vI x1, vI (x2 + 1), vU, vU] [] (mset M 102 x2 (-1)) Q)))) : Rn sx L K0 R0 65 2 [vR 76, vI x1, vI x2, vU, vU] [] M Q := by
  refine Rn_w (by decide) ?_
  show wpc sx L K0 R0 65 [(32, 1, .iload_n 2, []), (33, 2, .bipush 8, []), (35, 3, .if_icmp .ge 16, [3]), (38, 1, .aload_n 0, []), (39, 3, .getfield 22, [4, 11, 528]), (42, 1, .iload_n 2, []), (43, 1, .iconst (-1), []), (44, 1, .iastore, []), (45, 3, .iinc 2 1, []), (48, 3, .goto (-16), [2])] 0 [vR 76, vI x1, vI x2, vU, vU] [] M Q
  simp only [w_il_2, w_bipush, w_ic_ge, w_al_0, w_gf_4_11, kin_T (ks_74), rs_74_11, w_iconst, w_iast, arr_T (ks_102), w_inc_2 (c2I _), w_goto, true_and, and_true, true_or, or_true]
  exact h
theorem b_65_3 {sx : Int → Int} {L : Nat} {x1 : Int} {x2 : Int} {M : Mem} {Q : Option AV → Mem → Prop} 
    (h : Mq sx L K0 R0 226 [vI (M 6 0)] M (fun rv M1 => ∃ r1, rv = some (vI r1) ∧ (Rn sx L K0 R0 65 4 [vR 76, vI x1, vI 1, vI r1, vU] [] M1 Q))) : Rn sx L K0 R0 65 3 [vR 76, vI x1, vI x2, vU, vU] [] M Q := by
  refine Rn_w (by decide) ?_
  show wpc sx L K0 R0 65 [(51, 1, .iconst 1, []), (52, 1, .istore_n 2, []), (53, 1, .aload_n 0, []), (54, 3, .getfield 28, [4, 0, 515]), (57, 3, .getfield 106, [5, 0, 202]), (60, 3, .invokestatic 115, [226, 1011, 1]), (63, 1, .istore_n 3, [])] 4 [vR 76, vI x1, vI x2, vU, vU] [] M Q
  simp only [w_iconst, w_is_2 (c2I _), w_al_0, w_gf_4_0, kin_T (ks_74), rs_74_0, w_gf_5_0, kin_T (ks_6), w_ivs_1 (c2I _) cs0, rk_226, rvk1, List.cons_append, List.nil_append, w_is_3 (c2I _), w_fall, true_and, and_true, true_or, or_true]
  exact h
theorem b_65_4 {sx : Int → Int} {L : Nat} {x1 : Int} {x2 : Int} {x3 : Int} {M : Mem} {Q : Option AV → Mem → Prop} 
    (h : (x3 ≤ (0 : Int) → Rn sx L K0 R0 65 5 [vR 76, vI x1, vI x2, vI x3, vU] [] M Q) ∧ (¬ (x3 ≤ (0 : Int)) → inR (x1 + 1) ∧ (inR (x2 * (x1 + 1)) ∧ (inR (x3 + -1) ∧ (Rn sx L K0 R0 65 4 [vR 76, vI x1, vI (x2 * (x1 + 1)), vI (x3 + -1), vU] [] M Q))))) : Rn sx L K0 R0 65 4 [vR 76, vI x1, vI x2, vI x3, vU] [] M Q := by
  refine Rn_w (by decide) ?_
  show wpc sx L K0 R0 65 [(64, 1, .iload_n 3, []), (65, 3, .ifCond .le 15, [5]), (68, 1, .iload_n 2, []), (69, 1, .iload_n 1, []), (70, 1, .iconst 1, []), (71, 1, .iadd, []), (72, 1, .imul, []), (73, 1, .istore_n 2, []), (74, 3, .iinc 3 (-1), []), (77, 3, .goto (-13), [4])] 0 [vR 76, vI x1, vI x2, vI x3, vU] [] M Q
  simp only [w_il_3, w_if_le, w_il_2, w_il_1, w_iconst, w_iadd, w_imul, w_is_2 (c2I _), w_inc_3 (c2I _), w_goto, true_and, and_true, true_or, or_true]
  exact h
theorem b_65_5 {sx : Int → Int} {L : Nat} {x1 : Int} {x2 : Int} {x3 : Int} {M : Mem} {Q : Option AV → Mem → Prop} 
    (h : Rn sx L K0 R0 65 6 [vR 76, vI x1, vI x2, vI 0, vU] [] M Q) : Rn sx L K0 R0 65 5 [vR 76, vI x1, vI x2, vI x3, vU] [] M Q := by
  refine Rn_w (by decide) ?_
  show wpc sx L K0 R0 65 [(80, 1, .iconst 0, []), (81, 1, .istore_n 3, [])] 6 [vR 76, vI x1, vI x2, vI x3, vU] [] M Q
  simp only [w_iconst, w_is_3 (c2I _), w_fall, true_and, and_true, true_or, or_true]
  exact h
set_option maxRecDepth 8192 in
theorem b_65_6 {sx : Int → Int} {L : Nat} {x1 : Int} {x2 : Int} {x3 : Int} {u4 : AV} {M : Mem} {Q : Option AV → Mem → Prop} (hu4 : cat2 u4 = false)
    (h : (x2 ≤ x3 → Rn sx L K0 R0 65 10 [vR 76, vI x1, vI x2, vI x3, u4] [] M Q) ∧ (¬ (x2 ≤ x3) → inR (x1 + 1) ∧ (Mq sx L K0 R0 66 [vR 76, vI x3, vI (x1 + 1)] M (fun rv M1 => rv = none ∧ (Mq sx L K0 R0 36 [vR 77, vR 99, vI (M1 97 7), vI 0] M1 (fun rv M2 => rv = none ∧ ((M2 75 17 = (0 : Int) → Rn sx L K0 R0 65 7 [vR 76, vI x1, vI x2, vI x3, u4] [] M2 Q) ∧ (¬ (M2 75 17 = (0 : Int)) → inR ((M2 74 12) + 1) ∧ (Rn sx L K0 R0 65 7 [vR 76, vI x1, vI x2, vI x3, u4] [] (mset M2 74 12 ((M2 74 12) + 1)) Q))))))))) : Rn sx L K0 R0 65 6 [vR 76, vI x1, vI x2, vI x3, u4] [] M Q := by
  refine Rn_w (by decide) ?_
  show wpc sx L K0 R0 65 [(82, 1, .iload_n 3, []), (83, 1, .iload_n 2, []), (84, 3, .if_icmp .ge 102, [10]), (87, 1, .aload_n 0, []), (88, 1, .iload_n 3, []), (89, 1, .iload_n 1, []), (90, 1, .iconst 1, []), (91, 1, .iadd, []), (92, 3, .invokevirtual 133, [66, 1024, 2]), (95, 1, .aload_n 0, []), (96, 3, .getfield 31, [4, 2, 517]), (99, 1, .aload_n 0, []), (100, 3, .getfield 12, [4, 1, 516]), (103, 1, .aload_n 0, []), (104, 3, .getfield 12, [4, 1, 516]), (107, 3, .getfield 67, [5, 7, 227]), (110, 1, .iconst 0, []), (111, 3, .invokevirtual 70, [36, 977, 3]), (114, 1, .aload_n 0, []), (115, 3, .getfield 31, [4, 2, 517]), (118, 3, .getfield 76, [3, 17, 469]), (121, 3, .ifCond .eq 13, [7]), (124, 1, .aload_n 0, []), (125, 1, .dup, []), (126, 3, .getfield 130, [4, 12, 530]), (129, 1, .iconst 1, []), (130, 1, .iadd, []), (131, 3, .putfield 130, [4, 12, 530])] 7 [vR 76, vI x1, vI x2, vI x3, u4] [] M Q
  simp only [w_il_3, w_il_2, w_ic_ge, w_al_0, w_il_1, w_iconst, w_iadd, w_ivv_2 (c2I _) (c2I _) cs0, mk_66, kin_T (ks_74), rk_66, rvk0, List.nil_append, w_gf_4_2, rs_74_2, w_gf_4_1, rs_74_1, w_gf_5_7, kin_T (ks_97), w_ivv_3 (c2I _) (c2I _) (c2R _) cs0, mk_36, kin_T (ks_75), rk_36, w_gf_3_17, w_if_eq, w_dup (c2R _), w_gf_4_12, w_pf_4_12, w_fall, true_and, and_true, true_or, or_true]
  exact h
theorem b_65_7 {sx : Int → Int} {L : Nat} {x1 : Int} {x2 : Int} {x3 : Int} {u4 : AV} {M : Mem} {Q : Option AV → Mem → Prop} (hu4 : cat2 u4 = false)
    (h : Rn sx L K0 R0 65 8 [vR 76, vI x1, vI x2, vI x3, vI 0] [] M Q) : Rn sx L K0 R0 65 7 [vR 76, vI x1, vI x2, vI x3, u4] [] M Q := by
  refine Rn_w (by decide) ?_
  show wpc sx L K0 R0 65 [(134, 1, .iconst 0, []), (135, 2, .istore 4, [])] 8 [vR 76, vI x1, vI x2, vI x3, u4] [] M Q
  simp only [w_iconst, w_is_4 (c2I _), w_fall, true_and, and_true, true_or, or_true]
  exact h
theorem b_65_8 {sx : Int → Int} {L : Nat} {x1 : Int} {x2 : Int} {x3 : Int} {x4 : Int} {M : Mem} {Q : Option AV → Mem → Prop} (hj0 : 0 ≤ x4 ∧ x4 < 8)
    (h : ((8 : Int) ≤ x4 → Rn sx L K0 R0 65 9 [vR 76, vI x1, vI x2, vI x3, vI x4] [] M Q) ∧ (¬ ((8 : Int) ≤ x4) → Mq sx L K0 R0 11 [vR (ckA 75 x4 + 2)] M (fun rv M1 => ∃ r1, rv = some (vI r1) ∧ (inR (x4 + 1) ∧ (Rn sx L K0 R0 65 8 [vR 76, vI x1, vI x2, vI x3, vI (x4 + 1)] [] (mset M1 102 x4 (max (M 102 x4) r1)) Q))))) : Rn sx L K0 R0 65 8 [vR 76, vI x1, vI x2, vI x3, vI x4] [] M Q := by
  refine Rn_w (by decide) ?_
  show wpc sx L K0 R0 65 [(137, 2, .iload 4, []), (139, 2, .bipush 8, []), (141, 3, .if_icmp .ge 39, [9]), (144, 1, .aload_n 0, []), (145, 3, .getfield 22, [4, 11, 528]), (148, 2, .iload 4, []), (150, 1, .aload_n 0, []), (151, 3, .getfield 22, [4, 11, 528]), (154, 2, .iload 4, []), (156, 1, .iaload, []), (157, 1, .aload_n 0, []), (158, 3, .getfield 31, [4, 2, 517]), (161, 3, .getfield 136, [3, 1, 446]), (164, 2, .iload 4, []), (166, 1, .aaload, []), (167, 3, .invokevirtual 140, [11, 1028, 0]), (170, 3, .invokestatic 145, [1002, 1029]), (173, 1, .iastore, []), (174, 3, .iinc 4 1, []), (177, 3, .goto (-40), [8])] 0 [vR 76, vI x1, vI x2, vI x3, vI x4] [] M Q
  simp only [w_il_4, w_bipush, w_ic_ge, w_al_0, w_gf_4_11, kin_T (ks_74), rs_74_11, w_iald, arr_T (ks_102), w_gf_4_2, rs_74_2, w_gf_3_1, kin_T (ks_75), (rrb1 (c := 75) (by unfold isRb; omega)), w_aald, rcks (c := 75) (by unfold isRb; omega) hj0.1 hj0.2, arq_T (ks_76) ⟨by decide, by decide⟩, hj0.1, (show x4 < ((8 : Nat) : Int) from hj0.2), w_ivv_0  (cs3 _ _ _), mk_11, kin_T (kck (isCk_A (B := 75) (by unfold isRb; omega) hj0.1 hj0.2)), rk_11, rvk1, List.cons_append, List.nil_append, w_max (cs2 _ _), w_iast, w_inc_4 (c2I _), w_goto, true_and, and_true, true_or, or_true]
  exact h
theorem b_65_9 {sx : Int → Int} {L : Nat} {x1 : Int} {x2 : Int} {x3 : Int} {x4 : Int} {M : Mem} {Q : Option AV → Mem → Prop} 
    (h : inR (x3 + 1) ∧ (Rn sx L K0 R0 65 6 [vR 76, vI x1, vI x2, vI (x3 + 1), vI x4] [] M Q)) : Rn sx L K0 R0 65 9 [vR 76, vI x1, vI x2, vI x3, vI x4] [] M Q := by
  refine Rn_w (by decide) ?_
  show wpc sx L K0 R0 65 [(180, 3, .iinc 3 1, []), (183, 3, .goto (-101), [6])] 0 [vR 76, vI x1, vI x2, vI x3, vI x4] [] M Q
  simp only [w_inc_3 (c2I _), w_goto, true_and, and_true, true_or, or_true]
  exact h
theorem b_65_10 {sx : Int → Int} {L : Nat} {x1 : Int} {x2 : Int} {x3 : Int} {u4 : AV} {M : Mem} {Q : Option AV → Mem → Prop} (hu4 : cat2 u4 = false)
    (h : Q none M) : Rn sx L K0 R0 65 10 [vR 76, vI x1, vI x2, vI x3, u4] [] M Q := by
  refine Rn_w (by decide) ?_
  show wpc sx L K0 R0 65 [(186, 1, .return_, [])] 0 [vR 76, vI x1, vI x2, vI x3, u4] [] M Q
  simp only [w_ret0 rk_65, true_and, and_true, true_or, or_true]
  exact h
theorem b_66_0 {sx : Int → Int} {L : Nat} {x1 : Int} {x2 : Int} {M : Mem} {Q : Option AV → Mem → Prop} 
    (h : Rn sx L K0 R0 66 1 [vR 76, vI x1, vI x2, vI x1, vI 0] [] M Q) : Rn sx L K0 R0 66 0 [vR 76, vI x1, vI x2, vU, vU] [] M Q := by
  refine Rn_w (by decide) ?_
  show wpc sx L K0 R0 66 [(0, 1, .iload_n 1, []), (1, 1, .istore_n 3, []), (2, 1, .iconst 0, []), (3, 2, .istore 4, [])] 1 [vR 76, vI x1, vI x2, vU, vU] [] M Q
  simp only [w_il_1, w_is_3 (c2I _), w_iconst, w_is_4 (c2I _), w_fall, true_and, and_true, true_or, or_true]
  exact h
theorem b_66_1 {sx : Int → Int} {L : Nat} {x1 : Int} {x2 : Int} {x3 : Int} {x4 : Int} {M : Mem} {Q : Option AV → Mem → Prop} 
    (h : ((8 : Int) ≤ x4 → Rn sx L K0 R0 66 3 [vR 76, vI x1, vI x2, vI x3, vI x4] [] M Q) ∧ (¬ ((8 : Int) ≤ x4) → (x2 ≤ (0 : Int) → Rn sx L K0 R0 66 3 [vR 76, vI x1, vI x2, vI x3, vI x4] [] M Q) ∧ (¬ (x2 ≤ (0 : Int)) → Mq sx L K0 R0 78 [vR 8, vI x4] M (fun rv M1 => ∃ r1, rv = some (vI r1) ∧ ((r1 = (0 : Int) → Rn sx L K0 R0 66 2 [vR 76, vI x1, vI x2, vI x3, vI x4] [] M1 Q) ∧ (¬ (r1 = (0 : Int)) → ((0 : Int) ≤ x3 ∧ (0 : Int) < x2) ∧ (((0 : Int) ≤ x4 ∧ x4 < (8 : Int)) ∧ (((0 : Int) ≤ x3 ∧ (0 : Int) < x2) ∧ (Rn sx L K0 R0 66 2 [vR 76, vI x1, vI x2, vI (x3 / x2), vI x4] [] (mset M1 100 x4 (x3 % x2)) Q))))))))) : Rn sx L K0 R0 66 1 [vR 76, vI x1, vI x2, vI x3, vI x4] [] M Q := by
  refine Rn_w (by decide) ?_
  show wpc sx L K0 R0 66 [(5, 2, .iload 4, []), (7, 2, .bipush 8, []), (9, 3, .if_icmp .ge 42, [3]), (12, 1, .iload_n 2, []), (13, 3, .ifCond .le 38, [3]), (16, 1, .aload_n 0, []), (17, 3, .getfield 28, [4, 0, 515]), (20, 2, .iload 4, []), (22, 3, .invokevirtual 90, [78, 971, 1]), (25, 3, .ifCond .eq 20, [2]), (28, 1, .aload_n 0, []), (29, 3, .getfield 12, [4, 1, 516]), (32, 3, .getfield 151, [5, 3, 213]), (35, 2, .iload 4, []), (37, 1, .iload_n 3, []), (38, 1, .iload_n 2, []), (39, 1, .irem, []), (40, 1, .iastore, []), (41, 1, .iload_n 3, []), (42, 1, .iload_n 2, []), (43, 1, .idiv, []), (44, 1, .istore_n 3, [])] 2 [vR 76, vI x1, vI x2, vI x3, vI x4] [] M Q
  simp only [w_il_4, w_bipush, w_ic_ge, w_il_2, w_if_le, w_al_0, w_gf_4_0, kin_T (ks_74), rs_74_0, w_ivv_1 (c2I _) cs0, mk_78, kin_T (ks_6), rk_78, rvk2, List.cons_append, List.nil_append, w_if_eq, w_gf_4_1, rs_74_1, w_gf_5_3, kin_T (ks_97), (rst3 (c := 97) (by unfold isSt; omega)), w_il_3, w_irem, w_iast, arr_T (ks_100), w_idiv, w_is_3 (c2I _), w_fall, true_and, and_true, true_or, or_true]
  exact h
theorem b_66_2 {sx : Int → Int} {L : Nat} {x1 : Int} {x2 : Int} {x3 : Int} {x4 : Int} {M : Mem} {Q : Option AV → Mem → Prop} 
    (h : inR (x4 + 1) ∧ (Rn sx L K0 R0 66 1 [vR 76, vI x1, vI x2, vI x3, vI (x4 + 1)] [] M Q)) : Rn sx L K0 R0 66 2 [vR 76, vI x1, vI x2, vI x3, vI x4] [] M Q := by
  refine Rn_w (by decide) ?_
  show wpc sx L K0 R0 66 [(45, 3, .iinc 4 1, []), (48, 3, .goto (-43), [1])] 0 [vR 76, vI x1, vI x2, vI x3, vI x4] [] M Q
  simp only [w_inc_4 (c2I _), w_goto, true_and, and_true, true_or, or_true]
  exact h
theorem b_66_3 {sx : Int → Int} {L : Nat} {x1 : Int} {x2 : Int} {x3 : Int} {x4 : Int} {M : Mem} {Q : Option AV → Mem → Prop} 
    (h : Q none M) : Rn sx L K0 R0 66 3 [vR 76, vI x1, vI x2, vI x3, vI x4] [] M Q := by
  refine Rn_w (by decide) ?_
  show wpc sx L K0 R0 66 [(51, 1, .return_, [])] 0 [vR 76, vI x1, vI x2, vI x3, vI x4] [] M Q
  simp only [w_ret0 rk_66, true_and, and_true, true_or, or_true]
  exact h
theorem b_67_0 {sx : Int → Int} {L : Nat} {c1 : Nat} {M : Mem} {Q : Option AV → Mem → Prop} (h1 : isSh c1)
    (h : Mq sx L K0 R0 75 [vR 99, vR 8] M (fun rv M1 => rv = none ∧ (Rn sx L K0 R0 67 1 [vR 76, vR (c1 + 2), vI 0, vI 0, vU] [] M1 Q))) : Rn sx L K0 R0 67 0 [vR 76, vR (c1 + 2), vU, vU, vU] [] M Q := by
  refine Rn_w (by decide) ?_
  show wpc sx L K0 R0 67 [(0, 1, .aload_n 0, []), (1, 3, .getfield 12, [4, 1, 516]), (4, 1, .aload_n 0, []), (5, 3, .getfield 28, [4, 0, 515]), (8, 3, .invokevirtual 52, [75, 963, 1]), (11, 1, .iconst 0, []), (12, 1, .istore_n 2, []), (13, 1, .iconst 0, []), (14, 1, .istore_n 3, [])] 1 [vR 76, vR (c1 + 2), vU, vU, vU] [] M Q
  simp only [w_al_0, w_gf_4_1, kin_T (ks_74), rs_74_1, w_gf_4_0, rs_74_0, w_ivv_1 (c2R _) cs0, mk_75, kin_T (ks_97), rk_75, rvk0, List.nil_append, w_iconst, w_is_2 (c2R _), w_is_3 (c2I _), w_fall, true_and, and_true, true_or, or_true]
  exact h
theorem b_67_1 {sx : Int → Int} {L : Nat} {c1 : Nat} {x2 : Int} {x3 : Int} {u4 : AV} {M : Mem} {Q : Option AV → Mem → Prop} (h1 : isSh c1) (hu4 : cat2 u4 = false)
    (h : ((2 : Int) < x3 → Rn sx L K0 R0 67 5 [vR 76, vR (c1 + 2), vI x2, vI x3, u4] [] M Q) ∧ (¬ ((2 : Int) < x3) → Rn sx L K0 R0 67 2 [vR 76, vR (c1 + 2), vI x2, vI x3, vI 0] [] M Q)) : Rn sx L K0 R0 67 1 [vR 76, vR (c1 + 2), vI x2, vI x3, u4] [] M Q := by
  refine Rn_w (by decide) ?_
  show wpc sx L K0 R0 67 [(15, 1, .iload_n 3, []), (16, 1, .iconst 2, []), (17, 3, .if_icmp .gt 60, [5]), (20, 1, .iconst 0, []), (21, 2, .istore 4, [])] 2 [vR 76, vR (c1 + 2), vI x2, vI x3, u4] [] M Q
  simp only [w_il_3, w_iconst, w_ic_gt, w_is_4 (c2I _), w_fall, true_and, and_true, true_or, or_true]
  exact h
set_option maxRecDepth 8192 in
theorem b_67_2 {sx : Int → Int} {L : Nat} {c1 : Nat} {x2 : Int} {x3 : Int} {x4 : Int} {M : Mem} {Q : Option AV → Mem → Prop} (h1 : isSh c1)
    (h : ((2 : Int) < x4 → Rn sx L K0 R0 67 4 [vR 76, vR (c1 + 2), vI x2, vI x3, vI x4] [] M Q) ∧ (¬ ((2 : Int) < x4) → Mq sx L K0 R0 68 [vR 76, vR (c1 + 2)] (mset (mset M 97 4 x3) 97 5 x4) (fun rv M1 => ∃ r1, rv = some (vI r1) ∧ ((r1 = (0 : Int) → Rn sx L K0 R0 67 3 [vR 76, vR (c1 + 2), vI x2, vI x3, vI x4] [] M1 Q) ∧ (¬ (r1 = (0 : Int)) → inR ((3 : Int) * x3) ∧ (inR (((3 : Int) * x3) + x4) ∧ (((0 : Int) ≤ (1 : Int) ∧ (0 : Int) ≤ ((3 : Int) * x3) + x4 ∧ ((3 : Int) * x3) + x4 ≤ (30 : Int) ∧ (1 : Int) * 2 ^ (((3 : Int) * x3) + x4).toNat ≤ (2147483647 : Int)) ∧ (Rn sx L K0 R0 67 3 [vR 76, vR (c1 + 2), vI (iOr x2 ((1 : Int) * 2 ^ (((3 : Int) * x3) + x4).toNat)), vI x3, vI x4] [] M1 Q)))))))) : Rn sx L K0 R0 67 2 [vR 76, vR (c1 + 2), vI x2, vI x3, vI x4] [] M Q := by
  refine Rn_w (by decide) ?_
  show wpc sx L K0 R0 67 [(23, 2, .iload 4, []), (25, 1, .iconst 2, []), (26, 3, .if_icmp .gt 45, [4]), (29, 1, .aload_n 0, []), (30, 3, .getfield 12, [4, 1, 516]), (33, 1, .iload_n 3, []), (34, 3, .putfield 154, [5, 4, 217]), (37, 1, .aload_n 0, []), (38, 3, .getfield 12, [4, 1, 516]), (41, 2, .iload 4, []), (43, 3, .putfield 157, [5, 5, 221]), (46, 1, .aload_n 0, []), (47, 1, .aload_n 1, []), (48, 3, .invokevirtual 160, [68, 1045, 1]), (51, 3, .ifCond .eq 14, [3]), (54, 1, .iload_n 2, []), (55, 1, .iconst 1, []), (56, 1, .iconst 3, []), (57, 1, .iload_n 3, []), (58, 1, .imul, []), (59, 2, .iload 4, []), (61, 1, .iadd, []), (62, 1, .ishl, []), (63, 1, .ior, []), (64, 1, .istore_n 2, [])] 3 [vR 76, vR (c1 + 2), vI x2, vI x3, vI x4] [] M Q
  simp only [w_il_4, w_iconst, w_ic_gt, w_al_0, w_gf_4_1, kin_T (ks_74), rs_74_1, w_il_3, w_pf_5_4, kin_T (ks_97), w_pf_5_5, w_al_1, w_ivv_1 (c2R _) cs0, mk_68, rk_68, rvk2, List.cons_append, List.nil_append, w_if_eq, w_il_2, w_imul, w_iadd, w_ishl, w_ior, w_is_2 (c2R _), w_fall, true_and, and_true, true_or, or_true]
  exact h
theorem b_67_3 {sx : Int → Int} {L : Nat} {c1 : Nat} {x2 : Int} {x3 : Int} {x4 : Int} {M : Mem} {Q : Option AV → Mem → Prop} (h1 : isSh c1)
    (h : inR (x4 + 1) ∧ (Rn sx L K0 R0 67 2 [vR 76, vR (c1 + 2), vI x2, vI x3, vI (x4 + 1)] [] M Q)) : Rn sx L K0 R0 67 3 [vR 76, vR (c1 + 2), vI x2, vI x3, vI x4] [] M Q := by
  refine Rn_w (by decide) ?_
  show wpc sx L K0 R0 67 [(65, 3, .iinc 4 1, []), (68, 3, .goto (-45), [2])] 0 [vR 76, vR (c1 + 2), vI x2, vI x3, vI x4] [] M Q
  simp only [w_inc_4 (c2I _), w_goto, true_and, and_true, true_or, or_true]
  exact h
theorem b_67_4 {sx : Int → Int} {L : Nat} {c1 : Nat} {x2 : Int} {x3 : Int} {x4 : Int} {M : Mem} {Q : Option AV → Mem → Prop} (h1 : isSh c1)
    (h : inR (x3 + 1) ∧ (Rn sx L K0 R0 67 1 [vR 76, vR (c1 + 2), vI x2, vI (x3 + 1), vI x4] [] M Q)) : Rn sx L K0 R0 67 4 [vR 76, vR (c1 + 2), vI x2, vI x3, vI x4] [] M Q := by
  refine Rn_w (by decide) ?_
  show wpc sx L K0 R0 67 [(71, 3, .iinc 3 1, []), (74, 3, .goto (-59), [1])] 0 [vR 76, vR (c1 + 2), vI x2, vI x3, vI x4] [] M Q
  simp only [w_inc_3 (c2I _), w_goto, true_and, and_true, true_or, or_true]
  exact h
theorem b_67_5 {sx : Int → Int} {L : Nat} {c1 : Nat} {x2 : Int} {x3 : Int} {u4 : AV} {M : Mem} {Q : Option AV → Mem → Prop} (h1 : isSh c1) (hu4 : cat2 u4 = false)
    (h : Q (some (vI x2)) M) : Rn sx L K0 R0 67 5 [vR 76, vR (c1 + 2), vI x2, vI x3, u4] [] M Q := by
  refine Rn_w (by decide) ?_
  show wpc sx L K0 R0 67 [(77, 1, .iload_n 2, []), (78, 1, .ireturn, [])] 0 [vR 76, vR (c1 + 2), vI x2, vI x3, u4] [] M Q
  simp only [w_il_2, w_ret1 rk_67, true_and, and_true, true_or, or_true]
  exact h
theorem b_68_0 {sx : Int → Int} {L : Nat} {c1 : Nat} {M : Mem} {Q : Option AV → Mem → Prop} (h1 : isSh c1)
    (h : Mq sx L K0 R0 36 [vR 77, vR 99, vI (min (M c1 2) (M 97 7)), vI 0] M (fun rv M1 => rv = none ∧ (Rn sx L K0 R0 68 1 [vR 76, vR (c1 + 2), vI (min (M c1 2) (M 97 7)), vI 0, vU, vU] [] M1 Q))) : Rn sx L K0 R0 68 0 [vR 76, vR (c1 + 2), vU, vU, vU, vU] [] M Q := by
  refine Rn_w (by decide) ?_
  show wpc sx L K0 R0 68 [(0, 1, .aload_n 1, []), (1, 3, .getfield 164, [6, 2, 335]), (4, 1, .aload_n 0, []), (5, 3, .getfield 12, [4, 1, 516]), (8, 3, .getfield 67, [5, 7, 227]), (11, 3, .invokestatic 169, [1003, 1049]), (14, 1, .istore_n 2, []), (15, 1, .aload_n 0, []), (16, 3, .getfield 31, [4, 2, 517]), (19, 1, .aload_n 0, []), (20, 3, .getfield 12, [4, 1, 516]), (23, 1, .iload_n 2, []), (24, 1, .iconst 0, []), (25, 3, .invokevirtual 70, [36, 977, 3]), (28, 1, .iconst 0, []), (29, 1, .istore_n 3, [])] 1 [vR 76, vR (c1 + 2), vU, vU, vU, vU] [] M Q
  simp only [w_al_1, w_gf_6_2, kin_T (ksh h1), w_al_0, w_gf_4_1, kin_T (ks_74), rs_74_1, w_gf_5_7, kin_T (ks_97), w_min cs0, w_is_2 (c2R _), w_gf_4_2, rs_74_2, w_il_2, w_iconst, w_ivv_3 (c2I _) (c2I _) (c2R _) cs0, mk_36, kin_T (ks_75), rk_36, rvk0, List.nil_append, w_is_3 (c2I _), w_fall, true_and, and_true, true_or, or_true]
  exact h
theorem b_68_1 {sx : Int → Int} {L : Nat} {c1 : Nat} {x2 : Int} {x3 : Int} {u4 : AV} {u5 : AV} {M : Mem} {Q : Option AV → Mem → Prop} (h1 : isSh c1) (hu4 : cat2 u4 = false) (hu5 : cat2 u5 = false)
    (h : (x2 ≤ x3 → Rn sx L K0 R0 68 6 [vR 76, vR (c1 + 2), vI x2, vI x3, u4, u5] [] M Q) ∧ (¬ (x2 ≤ x3) → Mq sx L K0 R0 87 [vR (c1 + 2), vI x3] M (fun rv M1 => ∃ r1, rv = some (vI r1) ∧ ((r1 = (-1 : Int) → Rn sx L K0 R0 68 2 [vR 76, vR (c1 + 2), vI x2, vI x3, vI r1, u5] [] M1 Q) ∧ (¬ (r1 = (-1 : Int)) → Mq sx L K0 R0 125 [vI r1] M1 (fun rv M2 => ∃ r2, rv = some (vI r2) ∧ ((r2 = (0 : Int) → Rn sx L K0 R0 68 3 [vR 76, vR (c1 + 2), vI x2, vI x3, vI r1, u5] [] M2 Q) ∧ (¬ (r2 = (0 : Int)) → Rn sx L K0 R0 68 2 [vR 76, vR (c1 + 2), vI x2, vI x3, vI r1, u5] [] M2 Q)))))))) : Rn sx L K0 R0 68 1 [vR 76, vR (c1 + 2), vI x2, vI x3, u4, u5] [] M Q := by
  refine Rn_w (by decide) ?_
  show wpc sx L K0 R0 68 [(30, 1, .iload_n 3, []), (31, 1, .iload_n 2, []), (32, 3, .if_icmp .ge 58, [6]), (35, 1, .aload_n 1, []), (36, 1, .iload_n 3, []), (37, 3, .invokevirtual 172, [87, 1050, 1]), (40, 2, .istore 4, []), (42, 2, .iload 4, []), (44, 1, .iconst (-1), []), (45, 3, .if_icmp .eq 11, [2]), (48, 2, .iload 4, []), (50, 3, .invokestatic 87, [125, 976, 1]), (53, 3, .ifCond .eq 7, [3])] 2 [vR 76, vR (c1 + 2), vI x2, vI x3, u4, u5] [] M Q
  simp only [w_il_3, w_il_2, w_ic_ge, w_al_1, w_ivv_1 (c2I _) cs0, mk_87, kin_T (ksh h1), rk_87, rvk1, List.cons_append, List.nil_append, w_is_4 (c2I _), w_il_4, w_iconst, w_ic_eq, w_ivs_1 (c2I _) cs0, rk_125, rvk2, w_if_eq, w_fall, true_and, and_true, true_or, or_true]
  exact h
theorem b_68_2 {sx : Int → Int} {L : Nat} {c1 : Nat} {x2 : Int} {x3 : Int} {x4 : Int} {u5 : AV} {M : Mem} {Q : Option AV → Mem → Prop} (h1 : isSh c1) (hu5 : cat2 u5 = false)
    (h : Rn sx L K0 R0 68 4 [vR 76, vR (c1 + 2), vI x2, vI x3, vI x4, u5] [vI 1] M Q) : Rn sx L K0 R0 68 2 [vR 76, vR (c1 + 2), vI x2, vI x3, vI x4, u5] [] M Q := by
  refine Rn_w (by decide) ?_
  show wpc sx L K0 R0 68 [(56, 1, .iconst 1, []), (57, 3, .goto 4, [4])] 0 [vR 76, vR (c1 + 2), vI x2, vI x3, vI x4, u5] [] M Q
  simp only [w_iconst, w_goto, true_and, and_true, true_or, or_true]
  exact h
theorem b_68_3 {sx : Int → Int} {L : Nat} {c1 : Nat} {x2 : Int} {x3 : Int} {x4 : Int} {u5 : AV} {M : Mem} {Q : Option AV → Mem → Prop} (h1 : isSh c1) (hu5 : cat2 u5 = false)
    (h : Rn sx L K0 R0 68 4 [vR 76, vR (c1 + 2), vI x2, vI x3, vI x4, u5] [vI 0] M Q) : Rn sx L K0 R0 68 3 [vR 76, vR (c1 + 2), vI x2, vI x3, vI x4, u5] [] M Q := by
  refine Rn_w (by decide) ?_
  show wpc sx L K0 R0 68 [(60, 1, .iconst 0, [])] 4 [vR 76, vR (c1 + 2), vI x2, vI x3, vI x4, u5] [] M Q
  simp only [w_iconst, w_fall, true_and, and_true, true_or, or_true]
  exact h
theorem b_68_4 {sx : Int → Int} {L : Nat} {c1 : Nat} {x2 : Int} {x3 : Int} {x4 : Int} {u5 : AV} {y0 : Int} {M : Mem} {Q : Option AV → Mem → Prop} (h1 : isSh c1) (hu5 : cat2 u5 = false)
    (h : (y0 = (0 : Int) → Rn sx L K0 R0 68 5 [vR 76, vR (c1 + 2), vI x2, vI x3, vI x4, vI y0] [] M Q) ∧ (¬ (y0 = (0 : Int)) → Mq sx L K0 R0 50 [vR 77, vI x3, vI 0] M (fun rv M1 => ∃ r1, rv = some (vI r1) ∧ ((x4 = r1 → Rn sx L K0 R0 68 5 [vR 76, vR (c1 + 2), vI x2, vI x3, vI x4, vI y0] [] M1 Q) ∧ (¬ (x4 = r1) → Q (some (vI 0)) M1))))) : Rn sx L K0 R0 68 4 [vR 76, vR (c1 + 2), vI x2, vI x3, vI x4, u5] [vI y0] M Q := by
  refine Rn_w (by decide) ?_
  show wpc sx L K0 R0 68 [(61, 2, .istore 5, []), (63, 2, .iload 5, []), (65, 3, .ifCond .eq 19, [5]), (68, 2, .iload 4, []), (70, 1, .aload_n 0, []), (71, 3, .getfield 31, [4, 2, 517]), (74, 1, .iload_n 3, []), (75, 1, .iconst 0, []), (76, 3, .invokevirtual 175, [50, 1054, 2]), (79, 3, .if_icmp .eq 5, [5]), (82, 1, .iconst 0, []), (83, 1, .ireturn, [])] 0 [vR 76, vR (c1 + 2), vI x2, vI x3, vI x4, u5] [vI y0] M Q
  simp only [w_is_5 (c2I _), w_il_5, w_if_eq, w_il_4, w_al_0, w_gf_4_2, kin_T (ks_74), rs_74_2, w_il_3, w_iconst, w_ivv_2 (c2I _) (c2I _) (cs1 _), mk_50, kin_T (ks_75), rk_50, rvk1, List.cons_append, List.nil_append, w_ic_eq, w_ret2 rk_68, b01_0, true_and, and_true, true_or, or_true]
  exact h
theorem b_68_5 {sx : Int → Int} {L : Nat} {c1 : Nat} {x2 : Int} {x3 : Int} {x4 : Int} {x5 : Int} {M : Mem} {Q : Option AV → Mem → Prop} (h1 : isSh c1)
    (h : inR (x3 + 1) ∧ (Rn sx L K0 R0 68 1 [vR 76, vR (c1 + 2), vI x2, vI (x3 + 1), vI x4, vI x5] [] M Q)) : Rn sx L K0 R0 68 5 [vR 76, vR (c1 + 2), vI x2, vI x3, vI x4, vI x5] [] M Q := by
  refine Rn_w (by decide) ?_
  show wpc sx L K0 R0 68 [(84, 3, .iinc 3 1, []), (87, 3, .goto (-57), [1])] 0 [vR 76, vR (c1 + 2), vI x2, vI x3, vI x4, vI x5] [] M Q
  simp only [w_inc_3 (c2I _), w_goto, true_and, and_true, true_or, or_true]
  exact h
theorem b_68_6 {sx : Int → Int} {L : Nat} {c1 : Nat} {x2 : Int} {x3 : Int} {u4 : AV} {u5 : AV} {M : Mem} {Q : Option AV → Mem → Prop} (h1 : isSh c1) (hu4 : cat2 u4 = false) (hu5 : cat2 u5 = false)
    (h : Q (some (vI 1)) M) : Rn sx L K0 R0 68 6 [vR 76, vR (c1 + 2), vI x2, vI x3, u4, u5] [] M Q := by
  refine Rn_w (by decide) ?_
  show wpc sx L K0 R0 68 [(90, 1, .iconst 1, []), (91, 1, .ireturn, [])] 0 [vR 76, vR (c1 + 2), vI x2, vI x3, u4, u5] [] M Q
  simp only [w_iconst, w_ret2 rk_68, b01_1, true_and, and_true, true_or, or_true]
  exact h
theorem b_69_0 {sx : Int → Int} {L : Nat}  {M : Mem} {Q : Option AV → Mem → Prop} 
    (h : (M 74 13 = (0 : Int) → Rn sx L K0 R0 69 1 [vR 76, vU, vU, vU, vU, vU, vU, vU] [] M Q) ∧ (¬ (M 74 13 = (0 : Int)) → Q none M)) : Rn sx L K0 R0 69 0 [vR 76, vU, vU, vU, vU, vU, vU, vU] [] M Q := by
  refine Rn_w (by decide) ?_
  show wpc sx L K0 R0 69 [(0, 1, .aload_n 0, []), (1, 3, .getfield 46, [4, 13, 532]), (4, 3, .ifCond .eq 4, [1]), (7, 1, .return_, [])] 0 [vR 76, vU, vU, vU, vU, vU, vU, vU] [] M Q
  simp only [w_al_0, w_gf_4_13, kin_T (ks_74), w_if_eq, w_ret0 rk_69, true_and, and_true, true_or, or_true]
  exact h
theorem b_69_1 {sx : Int → Int} {L : Nat}  {M : Mem} {Q : Option AV → Mem → Prop} 
    (h : Mq sx L K0 R0 75 [vR 99, vR 8] (mset M 74 13 1) (fun rv M1 => rv = none ∧ (Rn sx L K0 R0 69 2 [vR 76, vI 0, vU, vU, vU, vU, vU, vU] [] M1 Q))) : Rn sx L K0 R0 69 1 [vR 76, vU, vU, vU, vU, vU, vU, vU] [] M Q := by
  refine Rn_w (by decide) ?_
  show wpc sx L K0 R0 69 [(8, 1, .aload_n 0, []), (9, 1, .iconst 1, []), (10, 3, .putfield 46, [4, 13, 532]), (13, 1, .aload_n 0, []), (14, 3, .getfield 12, [4, 1, 516]), (17, 1, .aload_n 0, []), (18, 3, .getfield 28, [4, 0, 515]), (21, 3, .invokevirtual 52, [75, 963, 1]), (24, 1, .iconst 0, []), (25, 1, .istore_n 1, [])] 2 [vR 76, vU, vU, vU, vU, vU, vU, vU] [] M Q
  simp only [w_al_0, w_iconst, w_pf_4_13, kin_T (ks_74), b01_1, w_gf_4_1, rs_74_1, w_gf_4_0, rs_74_0, w_ivv_1 (c2R _) cs0, mk_75, kin_T (ks_97), rk_75, rvk0, List.nil_append, w_is_1 (c2R _), w_fall, true_and, and_true, true_or, or_true]
  exact h
theorem b_69_2 {sx : Int → Int} {L : Nat} {x1 : Int} {u2 : AV} {u3 : AV} {u4 : AV} {u5 : AV} {u6 : AV} {u7 : AV} {M : Mem} {Q : Option AV → Mem → Prop} (hu2 : cat2 u2 = false) (hu3 : cat2 u3 = false) (hu4 : cat2 u4 = false) (hu5 : cat2 u5 = false) (hu6 : cat2 u6 = false) (hu7 : cat2 u7 = false)
    (h : ((2 : Int) < x1 → Rn sx L K0 R0 69 11 [vR 76, vI x1, u2, u3, u4, u5, u6, u7] [] M Q) ∧ (¬ ((2 : Int) < x1) → Rn sx L K0 R0 69 3 [vR 76, vI x1, vI 0, u3, u4, u5, u6, u7] [] M Q)) : Rn sx L K0 R0 69 2 [vR 76, vI x1, u2, u3, u4, u5, u6, u7] [] M Q := by
  refine Rn_w (by decide) ?_
  show wpc sx L K0 R0 69 [(26, 1, .iload_n 1, []), (27, 1, .iconst 2, []), (28, 3, .if_icmp .gt 166, [11]), (31, 1, .iconst 0, []), (32, 1, .istore_n 2, [])] 3 [vR 76, vI x1, u2, u3, u4, u5, u6, u7] [] M Q
  simp only [w_il_1, w_iconst, w_ic_gt, w_is_2 (c2I _), w_fall, true_and, and_true, true_or, or_true]
  exact h
set_option maxRecDepth 8192 in
theorem b_69_3 {sx : Int → Int} {L : Nat} {x1 : Int} {x2 : Int} {u3 : AV} {u4 : AV} {u5 : AV} {u6 : AV} {u7 : AV} {M : Mem} {Q : Option AV → Mem → Prop} (hu3 : cat2 u3 = false) (hu4 : cat2 u4 = false) (hu5 : cat2 u5 = false) (hu6 : cat2 u6 = false) (hu7 : cat2 u7 = false)
    (h : ((9 : Int) ≤ x2 → Rn sx L K0 R0 69 10 [vR 76, vI x1, vI x2, u3, u4, u5, u6, u7] [] M Q) ∧ (¬ ((9 : Int) ≤ x2) → ((0 : Int) ≤ x2 ∧ (0 : Int) < (3 : Int)) ∧ (((0 : Int) ≤ x2 ∧ (0 : Int) < (3 : Int)) ∧ (Mq sx L K0 R0 70 [vR 76] (mset (mset M 97 4 (x2 / 3)) 97 5 (x2 % 3)) (fun rv M1 => ∃ r1, rv = some (vI r1) ∧ (inR (x1 - r1) ∧ ((¬ x1 - r1 = (0 : Int) → Rn sx L K0 R0 69 4 [vR 76, vI x1, vI x2, vI (x1 - r1), u4, u5, u6, u7] [] M1 Q) ∧ (¬ (¬ x1 - r1 = (0 : Int)) → Mq sx L K0 R0 71 [vR 76, vI x1, vI (-1), vI (-1)] M1 (fun rv M2 => ∃ r2, rv = some (vI r2) ∧ ((r2 = (0 : Int) → Rn sx L K0 R0 69 4 [vR 76, vI x1, vI x2, vI (x1 - r1), u4, u5, u6, u7] [] M2 Q) ∧ (¬ (r2 = (0 : Int)) → Q none M2))))))))))) : Rn sx L K0 R0 69 3 [vR 76, vI x1, vI x2, u3, u4, u5, u6, u7] [] M Q := by
  refine Rn_w (by decide) ?_
  show wpc sx L K0 R0 69 [(33, 1, .iload_n 2, []), (34, 2, .bipush 9, []), (36, 3, .if_icmp .ge 152, [10]), (39, 1, .aload_n 0, []), (40, 3, .getfield 12, [4, 1, 516]), (43, 1, .iload_n 2, []), (44, 1, .iconst 3, []), (45, 1, .idiv, []), (46, 3, .putfield 154, [5, 4, 217]), (49, 1, .aload_n 0, []), (50, 3, .getfield 12, [4, 1, 516]), (53, 1, .iload_n 2, []), (54, 1, .iconst 3, []), (55, 1, .irem, []), (56, 3, .putfield 157, [5, 5, 221]), (59, 1, .iload_n 1, []), (60, 1, .aload_n 0, []), (61, 3, .invokevirtual 178, [70, 1063, 0]), (64, 1, .isub, []), (65, 1, .istore_n 3, []), (66, 1, .iload_n 3, []), (67, 3, .ifCond .ne 14, [4]), (70, 1, .aload_n 0, []), (71, 1, .iload_n 1, []), (72, 1, .iconst (-1), []), (73, 1, .iconst (-1), []), (74, 3, .invokevirtual 181, [71, 1067, 3]), (77, 3, .ifCond .eq 4, [4]), (80, 1, .return_, [])] 0 [vR 76, vI x1, vI x2, u3, u4, u5, u6, u7] [] M Q
  simp only [w_il_2, w_bipush, w_ic_ge, w_al_0, w_gf_4_1, kin_T (ks_74), rs_74_1, w_iconst, w_idiv, w_pf_5_4, kin_T (ks_97), w_irem, w_pf_5_5, w_il_1, w_ivv_0  (cs1 _), mk_70, rk_70, rvk1, List.cons_append, List.nil_append, w_isub, w_is_3 (c2I _), w_il_3, w_if_ne, w_ivv_3 (c2I _) (c2I _) (c2I _) cs0, mk_71, rk_71, rvk2, w_if_eq, w_ret0 rk_69, true_and, and_true, true_or, or_true]
  exact h
theorem b_69_4 {sx : Int → Int} {L : Nat} {x1 : Int} {x2 : Int} {x3 : Int} {u4 : AV} {u5 : AV} {u6 : AV} {u7 : AV} {M : Mem} {Q : Option AV → Mem → Prop} (hu4 : cat2 u4 = false) (hu5 : cat2 u5 = false) (hu6 : cat2 u6 = false) (hu7 : cat2 u7 = false)
    (h : (¬ x3 = (1 : Int) → Rn sx L K0 R0 69 5 [vR 76, vI x1, vI x2, vI x3, u4, u5, u6, u7] [] M Q) ∧ (¬ (¬ x3 = (1 : Int)) → Mq sx L K0 R0 79 [vR 99] M (fun rv M1 => ∃ r1, rv = some (vI r1) ∧ ((r1 = (0 : Int) → Rn sx L K0 R0 69 5 [vR 76, vI x1, vI x2, vI x3, u4, u5, u6, u7] [] M1 Q) ∧ (¬ (r1 = (0 : Int)) → Rn sx L K0 R0 69 6 [vR 76, vI x1, vI x2, vI x3, u4, u5, u6, u7] [vI 1] M1 Q))))) : Rn sx L K0 R0 69 4 [vR 76, vI x1, vI x2, vI x3, u4, u5, u6, u7] [] M Q := by
  refine Rn_w (by decide) ?_
  show wpc sx L K0 R0 69 [(81, 1, .iload_n 3, []), (82, 1, .iconst 1, []), (83, 3, .if_icmp .ne 17, [5]), (86, 1, .aload_n 0, []), (87, 3, .getfield 12, [4, 1, 516]), (90, 3, .invokevirtual 79, [79, 978, 0]), (93, 3, .ifCond .eq 7, [5]), (96, 1, .iconst 1, []), (97, 3, .goto 4, [6])] 0 [vR 76, vI x1, vI x2, vI x3, u4, u5, u6, u7] [] M Q
  simp only [w_il_3, w_iconst, w_ic_ne, w_al_0, w_gf_4_1, kin_T (ks_74), rs_74_1, w_ivv_0  cs0, mk_79, kin_T (ks_97), rk_79, rvk2, List.cons_append, List.nil_append, w_if_eq, w_goto, true_and, and_true, true_or, or_true]
  exact h
theorem b_69_5 {sx : Int → Int} {L : Nat} {x1 : Int} {x2 : Int} {x3 : Int} {u4 : AV} {u5 : AV} {u6 : AV} {u7 : AV} {M : Mem} {Q : Option AV → Mem → Prop} (hu4 : cat2 u4 = false) (hu5 : cat2 u5 = false) (hu6 : cat2 u6 = false) (hu7 : cat2 u7 = false)
    (h : Rn sx L K0 R0 69 6 [vR 76, vI x1, vI x2, vI x3, u4, u5, u6, u7] [vI 0] M Q) : Rn sx L K0 R0 69 5 [vR 76, vI x1, vI x2, vI x3, u4, u5, u6, u7] [] M Q := by
  refine Rn_w (by decide) ?_
  show wpc sx L K0 R0 69 [(100, 1, .iconst 0, [])] 6 [vR 76, vI x1, vI x2, vI x3, u4, u5, u6, u7] [] M Q
  simp only [w_iconst, w_fall, true_and, and_true, true_or, or_true]
  exact h
theorem b_69_6 {sx : Int → Int} {L : Nat} {x1 : Int} {x2 : Int} {x3 : Int} {u4 : AV} {u5 : AV} {u6 : AV} {u7 : AV} {y0 : Int} {M : Mem} {Q : Option AV → Mem → Prop} (hu4 : cat2 u4 = false) (hu5 : cat2 u5 = false) (hu6 : cat2 u6 = false) (hu7 : cat2 u7 = false)
    (h : Rn sx L K0 R0 69 7 [vR 76, vI x1, vI x2, vI x3, vI y0, vI 0, u6, u7] [] M Q) : Rn sx L K0 R0 69 6 [vR 76, vI x1, vI x2, vI x3, u4, u5, u6, u7] [vI y0] M Q := by
  refine Rn_w (by decide) ?_
  show wpc sx L K0 R0 69 [(101, 2, .istore 4, []), (103, 1, .iconst 0, []), (104, 2, .istore 5, [])] 7 [vR 76, vI x1, vI x2, vI x3, u4, u5, u6, u7] [vI y0] M Q
  simp only [w_is_4 (c2I _), w_iconst, w_is_5 (c2I _), w_fall, true_and, and_true, true_or, or_true]
  exact h
set_option maxRecDepth 8192 in
theorem b_69_7 {sx : Int → Int} {L : Nat} {x1 : Int} {x2 : Int} {x3 : Int} {x4 : Int} {x5 : Int} {u6 : AV} {u7 : AV} {M : Mem} {Q : Option AV → Mem → Prop} (hu6 : cat2 u6 = false) (hu7 : cat2 u7 = false)
    (h : (x4 = (0 : Int) → Rn sx L K0 R0 69 9 [vR 76, vI x1, vI x2, vI x3, vI x4, vI x5, u6, u7] [] M Q) ∧ (¬ (x4 = (0 : Int)) → ((64 : Int) ≤ x5 → Rn sx L K0 R0 69 9 [vR 76, vI x1, vI x2, vI x3, vI x4, vI x5, u6, u7] [] M Q) ∧ (¬ ((64 : Int) ≤ x5) → ((0 : Int) ≤ x5 ∧ (0 : Int) < (8 : Int)) ∧ (((0 : Int) ≤ x5 ∧ (0 : Int) < (8 : Int)) ∧ ((x5 % 8 ≤ x5 / 8 → Rn sx L K0 R0 69 8 [vR 76, vI x1, vI x2, vI x3, vI x4, vI x5, vI (x5 / 8), vI (x5 % 8)] [] M Q) ∧ (¬ (x5 % 8 ≤ x5 / 8) → Mq sx L K0 R0 78 [vR 8, vI (x5 / 8)] M (fun rv M1 => ∃ r1, rv = some (vI r1) ∧ ((r1 = (0 : Int) → Rn sx L K0 R0 69 8 [vR 76, vI x1, vI x2, vI x3, vI x4, vI x5, vI (x5 / 8), vI (x5 % 8)] [] M1 Q) ∧ (¬ (r1 = (0 : Int)) → Mq sx L K0 R0 78 [vR 8, vI (x5 % 8)] M1 (fun rv M2 => ∃ r2, rv = some (vI r2) ∧ ((r2 = (0 : Int) → Rn sx L K0 R0 69 8 [vR 76, vI x1, vI x2, vI x3, vI x4, vI x5, vI (x5 / 8), vI (x5 % 8)] [] M2 Q) ∧ (¬ (r2 = (0 : Int)) → Mq sx L K0 R0 71 [vR 76, vI x1, vI (x5 / 8), vI (x5 % 8)] M2 (fun rv M3 => ∃ r3, rv = some (vI r3) ∧ ((r3 = (0 : Int) → Rn sx L K0 R0 69 8 [vR 76, vI x1, vI x2, vI x3, vI x4, vI x5, vI (x5 / 8), vI (x5 % 8)] [] M3 Q) ∧ (¬ (r3 = (0 : Int)) → Q none M3))))))))))))))) : Rn sx L K0 R0 69 7 [vR 76, vI x1, vI x2, vI x3, vI x4, vI x5, u6, u7] [] M Q := by
  refine Rn_w (by decide) ?_
  show wpc sx L K0 R0 69 [(106, 2, .iload 4, []), (108, 3, .ifCond .eq 74, [9]), (111, 2, .iload 5, []), (113, 2, .bipush 64, []), (115, 3, .if_icmp .ge 67, [9]), (118, 2, .iload 5, []), (120, 2, .bipush 8, []), (122, 1, .idiv, []), (123, 2, .istore 6, []), (125, 2, .iload 5, []), (127, 2, .bipush 8, []), (129, 1, .irem, []), (130, 2, .istore 7, []), (132, 2, .iload 6, []), (134, 2, .iload 7, []), (136, 3, .if_icmp .ge 40, [8]), (139, 1, .aload_n 0, []), (140, 3, .getfield 28, [4, 0, 515]), (143, 2, .iload 6, []), (145, 3, .invokevirtual 90, [78, 971, 1]), (148, 3, .ifCond .eq 28, [8]), (151, 1, .aload_n 0, []), (152, 3, .getfield 28, [4, 0, 515]), (155, 2, .iload 7, []), (157, 3, .invokevirtual 90, [78, 971, 1]), (160, 3, .ifCond .eq 16, [8]), (163, 1, .aload_n 0, []), (164, 1, .iload_n 1, []), (165, 2, .iload 6, []), (167, 2, .iload 7, []), (169, 3, .invokevirtual 181, [71, 1067, 3]), (172, 3, .ifCond .eq 4, [8]), (175, 1, .return_, [])] 0 [vR 76, vI x1, vI x2, vI x3, vI x4, vI x5, u6, u7] [] M Q
  simp only [w_il_4, w_if_eq, w_il_5, w_bipush, w_ic_ge, w_idiv, w_is_6 (c2I _), w_irem, w_is_7 (c2I _), w_il_6, w_il_7, w_al_0, w_gf_4_0, kin_T (ks_74), rs_74_0, w_ivv_1 (c2I _) cs0, mk_78, kin_T (ks_6), rk_78, rvk2, List.cons_append, List.nil_append, w_il_1, w_ivv_3 (c2I _) (c2I _) (c2I _) cs0, mk_71, rk_71, w_ret0 rk_69, true_and, and_true, true_or, or_true]
  exact h
theorem b_69_8 {sx : Int → Int} {L : Nat} {x1 : Int} {x2 : Int} {x3 : Int} {x4 : Int} {x5 : Int} {x6 : Int} {x7 : Int} {M : Mem} {Q : Option AV → Mem → Prop} 
    (h : inR (x5 + 1) ∧ (Rn sx L K0 R0 69 7 [vR 76, vI x1, vI x2, vI x3, vI x4, vI (x5 + 1), vI x6, vI x7] [] M Q)) : Rn sx L K0 R0 69 8 [vR 76, vI x1, vI x2, vI x3, vI x4, vI x5, vI x6, vI x7] [] M Q := by
  refine Rn_w (by decide) ?_
  show wpc sx L K0 R0 69 [(176, 3, .iinc 5 1, []), (179, 3, .goto (-73), [7])] 0 [vR 76, vI x1, vI x2, vI x3, vI x4, vI x5, vI x6, vI x7] [] M Q
  simp only [w_inc_5 (c2I _), w_goto, true_and, and_true, true_or, or_true]
  exact h
theorem b_69_9 {sx : Int → Int} {L : Nat} {x1 : Int} {x2 : Int} {x3 : Int} {x4 : Int} {x5 : Int} {u6 : AV} {u7 : AV} {M : Mem} {Q : Option AV → Mem → Prop} (hu6 : cat2 u6 = false) (hu7 : cat2 u7 = false)
    (h : inR (x2 + 1) ∧ (Rn sx L K0 R0 69 3 [vR 76, vI x1, vI (x2 + 1), vI x3, vI x4, vI x5, u6, u7] [] M Q)) : Rn sx L K0 R0 69 9 [vR 76, vI x1, vI x2, vI x3, vI x4, vI x5, u6, u7] [] M Q := by
  refine Rn_w (by decide) ?_
  show wpc sx L K0 R0 69 [(182, 3, .iinc 2 1, []), (185, 3, .goto (-152), [3])] 0 [vR 76, vI x1, vI x2, vI x3, vI x4, vI x5, u6, u7] [] M Q
  simp only [w_inc_2 (c2I _), w_goto, true_and, and_true, true_or, or_true]
  exact h
theorem b_69_10 {sx : Int → Int} {L : Nat} {x1 : Int} {x2 : Int} {u3 : AV} {u4 : AV} {u5 : AV} {u6 : AV} {u7 : AV} {M : Mem} {Q : Option AV → Mem → Prop} (hu3 : cat2 u3 = false) (hu4 : cat2 u4 = false) (hu5 : cat2 u5 = false) (hu6 : cat2 u6 = false) (hu7 : cat2 u7 = false)
    (h : inR (x1 + 1) ∧ (Rn sx L K0 R0 69 2 [vR 76, vI (x1 + 1), vI x2, u3, u4, u5, u6, u7] [] M Q)) : Rn sx L K0 R0 69 10 [vR 76, vI x1, vI x2, u3, u4, u5, u6, u7] [] M Q := by
  refine Rn_w (by decide) ?_
  show wpc sx L K0 R0 69 [(188, 3, .iinc 1 1, []), (191, 3, .goto (-165), [2])] 0 [vR 76, vI x1, vI x2, u3, u4, u5, u6, u7] [] M Q
  simp only [w_inc_1 (c2R _), w_goto, true_and, and_true, true_or, or_true]
  exact h
theorem b_69_11 {sx : Int → Int} {L : Nat} {x1 : Int} {u2 : AV} {u3 : AV} {u4 : AV} {u5 : AV} {u6 : AV} {u7 : AV} {M : Mem} {Q : Option AV → Mem → Prop} (hu2 : cat2 u2 = false) (hu3 : cat2 u3 = false) (hu4 : cat2 u4 = false) (hu5 : cat2 u5 = false) (hu6 : cat2 u6 = false) (hu7 : cat2 u7 = false)
    (h : Mq sx L K0 R0 73 [vR 76, vI (-1), vI (-1), vI (-1)] M (fun rv M1 => rv = none ∧ (Q none M1))) : Rn sx L K0 R0 69 11 [vR 76, vI x1, u2, u3, u4, u5, u6, u7] [] M Q := by
  refine Rn_w (by decide) ?_
  show wpc sx L K0 R0 69 [(194, 1, .aload_n 0, []), (195, 1, .iconst (-1), []), (196, 1, .iconst (-1), []), (197, 1, .iconst (-1), []), (198, 3, .invokevirtual 185, [73, 1075, 3]), (201, 1, .return_, [])] 0 [vR 76, vI x1, u2, u3, u4, u5, u6, u7] [] M Q
  simp only [w_al_0, w_iconst, w_ivv_3 (c2I _) (c2I _) (c2I _) cs0, mk_73, kin_T (ks_74), rk_73, rvk0, List.nil_append, w_ret0 rk_69, true_and, and_true, true_or, or_true]
  exact h
theorem b_70_0 {sx : Int → Int} {L : Nat}  {M : Mem} {Q : Option AV → Mem → Prop} 
    (h : (¬ M 97 4 = M 6 4 → Rn sx L K0 R0 70 1 [vR 76, vU] [] M Q) ∧ (¬ (¬ M 97 4 = M 6 4) → Rn sx L K0 R0 70 2 [vR 76, vU] [vI 0] M Q)) : Rn sx L K0 R0 70 0 [vR 76, vU] [] M Q := by
  refine Rn_w (by decide) ?_
  show wpc sx L K0 R0 70 [(0, 1, .aload_n 0, []), (1, 3, .getfield 12, [4, 1, 516]), (4, 3, .getfield 154, [5, 4, 217]), (7, 1, .aload_n 0, []), (8, 3, .getfield 28, [4, 0, 515]), (11, 3, .getfield 154, [5, 4, 217]), (14, 3, .if_icmp .ne 7, [1]), (17, 1, .iconst 0, []), (18, 3, .goto 4, [2])] 0 [vR 76, vU] [] M Q
  simp only [w_al_0, w_gf_4_1, kin_T (ks_74), rs_74_1, w_gf_5_4, kin_T (ks_97), w_gf_4_0, rs_74_0, kin_T (ks_6), w_ic_ne, w_iconst, w_goto, true_and, and_true, true_or, or_true]
  exact h
theorem b_70_1 {sx : Int → Int} {L : Nat}  {M : Mem} {Q : Option AV → Mem → Prop} 
    (h : Rn sx L K0 R0 70 2 [vR 76, vU] [vI 1] M Q) : Rn sx L K0 R0 70 1 [vR 76, vU] [] M Q := by
  refine Rn_w (by decide) ?_
  show wpc sx L K0 R0 70 [(21, 1, .iconst 1, [])] 2 [vR 76, vU] [] M Q
  simp only [w_iconst, w_fall, true_and, and_true, true_or, or_true]
  exact h
theorem b_70_2 {sx : Int → Int} {L : Nat} {y0 : Int} {M : Mem} {Q : Option AV → Mem → Prop} 
    (h : (¬ M 97 5 = M 6 5 → Rn sx L K0 R0 70 3 [vR 76, vI y0] [] M Q) ∧ (¬ (¬ M 97 5 = M 6 5) → Rn sx L K0 R0 70 4 [vR 76, vI y0] [vI y0] M Q)) : Rn sx L K0 R0 70 2 [vR 76, vU] [vI y0] M Q := by
  refine Rn_w (by decide) ?_
  show wpc sx L K0 R0 70 [(22, 1, .istore_n 1, []), (23, 1, .aload_n 0, []), (24, 3, .getfield 12, [4, 1, 516]), (27, 3, .getfield 157, [5, 5, 221]), (30, 1, .aload_n 0, []), (31, 3, .getfield 28, [4, 0, 515]), (34, 3, .getfield 157, [5, 5, 221]), (37, 3, .if_icmp .ne 7, [3]), (40, 1, .iload_n 1, []), (41, 3, .goto 6, [4])] 0 [vR 76, vU] [vI y0] M Q
  simp only [w_is_1 (c2R _), w_al_0, w_gf_4_1, kin_T (ks_74), rs_74_1, w_gf_5_5, kin_T (ks_97), w_gf_4_0, rs_74_0, kin_T (ks_6), w_ic_ne, w_il_1, w_goto, true_and, and_true, true_or, or_true]
  exact h
theorem b_70_3 {sx : Int → Int} {L : Nat} {x1 : Int} {M : Mem} {Q : Option AV → Mem → Prop} 
    (h : inR (x1 + 1) ∧ (Rn sx L K0 R0 70 4 [vR 76, vI x1] [vI (x1 + 1)] M Q)) : Rn sx L K0 R0 70 3 [vR 76, vI x1] [] M Q := by
  refine Rn_w (by decide) ?_
  show wpc sx L K0 R0 70 [(44, 1, .iload_n 1, []), (45, 1, .iconst 1, []), (46, 1, .iadd, [])] 4 [vR 76, vI x1] [] M Q
  simp only [w_il_1, w_iconst, w_iadd, w_fall, true_and, and_true, true_or, or_true]
  exact h
theorem b_70_4 {sx : Int → Int} {L : Nat} {x1 : Int} {y0 : Int} {M : Mem} {Q : Option AV → Mem → Prop} 
    (h : Q (some (vI y0)) M) : Rn sx L K0 R0 70 4 [vR 76, vI x1] [vI y0] M Q := by
  refine Rn_w (by decide) ?_
  show wpc sx L K0 R0 70 [(47, 1, .ireturn, [])] 0 [vR 76, vI x1] [vI y0] M Q
  simp only [w_ret1 rk_70, true_and, and_true, true_or, or_true]
  exact h
set_option maxRecDepth 8192 in
theorem b_71_0 {sx : Int → Int} {L : Nat} {x1 : Int} {x2 : Int} {x3 : Int} {M : Mem} {Q : Option AV → Mem → Prop} 
    (h : Mq sx L K0 R0 72 [vR 76, vI x2, vI x3] M (fun rv M1 => rv = none ∧ (Mq sx L K0 R0 36 [vR 77, vR 99, vI (M1 97 7), vI 1] M1 (fun rv M2 => rv = none ∧ (Mq sx L K0 R0 72 [vR 76, vI x2, vI x3] M2 (fun rv M3 => rv = none ∧ ((¬ M3 75 17 = (0 : Int) → Rn sx L K0 R0 71 1 [vR 76, vI x1, vI x2, vI x3] [] M3 Q) ∧ (¬ (¬ M3 75 17 = (0 : Int)) → (M3 75 15 = (-1 : Int) → Rn sx L K0 R0 71 2 [vR 76, vI x1, vI x2, vI x3] [] M3 Q) ∧ (¬ (M3 75 15 = (-1 : Int)) → Rn sx L K0 R0 71 1 [vR 76, vI x1, vI x2, vI x3] [] M3 Q))))))))) : Rn sx L K0 R0 71 0 [vR 76, vI x1, vI x2, vI x3] [] M Q := by
  refine Rn_w (by decide) ?_
  show wpc sx L K0 R0 71 [(0, 1, .aload_n 0, []), (1, 1, .iload_n 2, []), (2, 1, .iload_n 3, []), (3, 3, .invokevirtual 189, [72, 1071, 2]), (6, 1, .aload_n 0, []), (7, 3, .getfield 31, [4, 2, 517]), (10, 1, .aload_n 0, []), (11, 3, .getfield 12, [4, 1, 516]), (14, 1, .aload_n 0, []), (15, 3, .getfield 12, [4, 1, 516]), (18, 3, .getfield 67, [5, 7, 227]), (21, 1, .iconst 1, []), (22, 3, .invokevirtual 70, [36, 977, 3]), (25, 1, .aload_n 0, []), (26, 1, .iload_n 2, []), (27, 1, .iload_n 3, []), (28, 3, .invokevirtual 189, [72, 1071, 2]), (31, 1, .aload_n 0, []), (32, 3, .getfield 31, [4, 2, 517]), (35, 3, .getfield 76, [3, 17, 469]), (38, 3, .ifCond .ne 14, [1]), (41, 1, .aload_n 0, []), (42, 3, .getfield 31, [4, 2, 517]), (45, 3, .getfield 192, [3, 15, 465]), (48, 1, .iconst (-1), []), (49, 3, .if_icmp .eq 5, [2])] 1 [vR 76, vI x1, vI x2, vI x3] [] M Q
  simp only [w_al_0, w_il_2, w_il_3, w_ivv_2 (c2I _) (c2I _) cs0, mk_72, kin_T (ks_74), rk_72, rvk0, List.nil_append, w_gf_4_2, rs_74_2, w_gf_4_1, rs_74_1, w_gf_5_7, kin_T (ks_97), w_iconst, w_ivv_3 (c2I _) (c2I _) (c2R _) cs0, mk_36, kin_T (ks_75), rk_36, w_gf_3_17, w_if_ne, w_gf_3_15, w_ic_eq, w_fall, true_and, and_true, true_or, or_true]
  exact h
theorem b_71_1 {sx : Int → Int} {L : Nat} {x1 : Int} {x2 : Int} {x3 : Int} {M : Mem} {Q : Option AV → Mem → Prop} 
    (h : Q (some (vI 0)) M) : Rn sx L K0 R0 71 1 [vR 76, vI x1, vI x2, vI x3] [] M Q := by
  refine Rn_w (by decide) ?_
  show wpc sx L K0 R0 71 [(52, 1, .iconst 0, []), (53, 1, .ireturn, [])] 0 [vR 76, vI x1, vI x2, vI x3] [] M Q
  simp only [w_iconst, w_ret2 rk_71, b01_0, true_and, and_true, true_or, or_true]
  exact h
theorem b_71_2 {sx : Int → Int} {L : Nat} {x1 : Int} {x2 : Int} {x3 : Int} {M : Mem} {Q : Option AV → Mem → Prop} 
    (h : Mq sx L K0 R0 73 [vR 76, vI x1, vI x2, vI x3] M (fun rv M1 => rv = none ∧ (Q (some (vI 1)) M1))) : Rn sx L K0 R0 71 2 [vR 76, vI x1, vI x2, vI x3] [] M Q := by
  refine Rn_w (by decide) ?_
  show wpc sx L K0 R0 71 [(54, 1, .aload_n 0, []), (55, 1, .iload_n 1, []), (56, 1, .iload_n 2, []), (57, 1, .iload_n 3, []), (58, 3, .invokevirtual 185, [73, 1075, 3]), (61, 1, .iconst 1, []), (62, 1, .ireturn, [])] 0 [vR 76, vI x1, vI x2, vI x3] [] M Q
  simp only [w_al_0, w_il_1, w_il_2, w_il_3, w_ivv_3 (c2I _) (c2I _) (c2I _) cs0, mk_73, kin_T (ks_74), rk_73, rvk0, List.nil_append, w_iconst, w_ret2 rk_71, b01_1, true_and, and_true, true_or, or_true]
  exact h
set_option maxRecDepth 8192 in
theorem b_72_0 {sx : Int → Int} {L : Nat} {x1 : Int} {x2 : Int} {M : Mem} {Q : Option AV → Mem → Prop} 
    (h : Mq sx L K0 R0 125 [vI x1] M (fun rv M1 => ∃ r1, rv = some (vI r1) ∧ ((r1 = (0 : Int) → Rn sx L K0 R0 72 1 [vR 76, vI x1, vI x2, vU] [] M1 Q) ∧ (¬ (r1 = (0 : Int)) → Mq sx L K0 R0 125 [vI x2] M1 (fun rv M2 => ∃ r2, rv = some (vI r2) ∧ ((r2 = (0 : Int) → Rn sx L K0 R0 72 1 [vR 76, vI x1, vI x2, vU] [] M2 Q) ∧ (¬ (r2 = (0 : Int)) → ((0 : Int) ≤ x1 ∧ x1 < (8 : Int)) ∧ (((0 : Int) ≤ x2 ∧ x2 < (8 : Int)) ∧ (((0 : Int) ≤ x1 ∧ x1 < (8 : Int)) ∧ (((0 : Int) ≤ x2 ∧ x2 < (8 : Int)) ∧ (Rn sx L K0 R0 72 1 [vR 76, vI x1, vI x2, vI (M2 98 x1)] [] (mset (mset M2 98 x1 (M2 98 x2)) 98 x2 (M2 98 x1)) Q))))))))))) : Rn sx L K0 R0 72 0 [vR 76, vI x1, vI x2, vU] [] M Q := by
  refine Rn_w (by decide) ?_
  show wpc sx L K0 R0 72 [(0, 1, .iload_n 1, []), (1, 3, .invokestatic 87, [125, 976, 1]), (4, 3, .ifCond .eq 48, [1]), (7, 1, .iload_n 2, []), (8, 3, .invokestatic 87, [125, 976, 1]), (11, 3, .ifCond .eq 41, [1]), (14, 1, .aload_n 0, []), (15, 3, .getfield 12, [4, 1, 516]), (18, 3, .getfield 60, [5, 1, 205]), (21, 1, .iload_n 1, []), (22, 1, .iaload, []), (23, 1, .istore_n 3, []), (24, 1, .aload_n 0, []), (25, 3, .getfield 12, [4, 1, 516]), (28, 3, .getfield 60, [5, 1, 205]), (31, 1, .iload_n 1, []), (32, 1, .aload_n 0, []), (33, 3, .getfield 12, [4, 1, 516]), (36, 3, .getfield 60, [5, 1, 205]), (39, 1, .iload_n 2, []), (40, 1, .iaload, []), (41, 1, .iastore, []), (42, 1, .aload_n 0, []), (43, 3, .getfield 12, [4, 1, 516]), (46, 3, .getfield 60, [5, 1, 205]), (49, 1, .iload_n 2, []), (50, 1, .iload_n 3, []), (51, 1, .iastore, [])] 1 [vR 76, vI x1, vI x2, vU] [] M Q
  simp only [w_il_1, w_ivs_1 (c2I _) cs0, rk_125, rvk2, List.cons_append, List.nil_append, w_if_eq, w_il_2, w_al_0, w_gf_4_1, kin_T (ks_74), rs_74_1, w_gf_5_1, kin_T (ks_97), (rst1 (c := 97) (by unfold isSt; omega)), w_iald, arr_T (ks_98), w_is_3 (c2I _), w_iast, w_il_3, w_fall, true_and, and_true, true_or, or_true]
  exact h
theorem b_72_1 {sx : Int → Int} {L : Nat} {x1 : Int} {x2 : Int} {u3 : AV} {M : Mem} {Q : Option AV → Mem → Prop} (hu3 : cat2 u3 = false)
    (h : Q none M) : Rn sx L K0 R0 72 1 [vR 76, vI x1, vI x2, u3] [] M Q := by
  refine Rn_w (by decide) ?_
  show wpc sx L K0 R0 72 [(52, 1, .return_, [])] 0 [vR 76, vI x1, vI x2, u3] [] M Q
  simp only [w_ret0 rk_72, true_and, and_true, true_or, or_true]
  exact h
set_option maxRecDepth 8192 in
theorem b_73_0 {sx : Int → Int} {L : Nat} {x1 : Int} {x2 : Int} {x3 : Int} {M : Mem} {Q : Option AV → Mem → Prop} 
    (h : ((0 : Int) ≤ (0 : Int) ∧ (0 : Int) < (5 : Int)) ∧ (((0 : Int) ≤ (1 : Int) ∧ (1 : Int) < (5 : Int)) ∧ (((0 : Int) ≤ (2 : Int) ∧ (2 : Int) < (5 : Int)) ∧ (((0 : Int) ≤ (3 : Int) ∧ (3 : Int) < (5 : Int)) ∧ (((0 : Int) ≤ (4 : Int) ∧ (4 : Int) < (5 : Int)) ∧ (Q none (mset (mset (mset (mset (mset M 103 0 x1) 103 1 ((mset M 103 0 x1) 97 4)) 103 2 ((mset (mset M 103 0 x1) 103 1 ((mset M 103 0 x1) 97 4)) 97 5)) 103 3 x2) 103 4 x3))))))) : Rn sx L K0 R0 73 0 [vR 76, vI x1, vI x2, vI x3] [] M Q := by
  refine Rn_w (by decide) ?_
  show wpc sx L K0 R0 73 [(0, 1, .aload_n 0, []), (1, 3, .getfield 25, [4, 14, 533]), (4, 1, .iconst 0, []), (5, 1, .iload_n 1, []), (6, 1, .iastore, []), (7, 1, .aload_n 0, []), (8, 3, .getfield 25, [4, 14, 533]), (11, 1, .iconst 1, []), (12, 1, .aload_n 0, []), (13, 3, .getfield 12, [4, 1, 516]), (16, 3, .getfield 154, [5, 4, 217]), (19, 1, .iastore, []), (20, 1, .aload_n 0, []), (21, 3, .getfield 25, [4, 14, 533]), (24, 1, .iconst 2, []), (25, 1, .aload_n 0, []), (26, 3, .getfield 12, [4, 1, 516]), (29, 3, .getfield 157, [5, 5, 221]), (32, 1, .iastore, []), (33, 1, .aload_n 0, []), (34, 3, .getfield 25, [4, 14, 533]), (37, 1, .iconst 3, []), (38, 1, .iload_n 2, []), (39, 1, .iastore, []), (40, 1, .aload_n 0, []), (41, 3, .getfield 25, [4, 14, 533]), (44, 1, .iconst 4, []), (45, 1, .iload_n 3, []), (46, 1, .iastore, []), (47, 1, .return_, [])] 0 [vR 76, vI x1, vI x2, vI x3] [] M Q
  simp only [w_al_0, w_gf_4_14, kin_T (ks_74), rs_74_14, w_iconst, w_il_1, w_iast, arr_T (ks_103), w_gf_4_1, rs_74_1, w_gf_5_4, kin_T (ks_97), w_gf_5_5, w_il_2, w_il_3, w_ret0 rk_73, true_and, and_true, true_or, or_true]
  exact h
theorem b_75_0 {sx : Int → Int} {L : Nat} {c0 : Nat} {c1 : Nat} {M : Mem} {Q : Option AV → Mem → Prop} (h0 : isSt c0) (h1 : isSt c1)
    (h : Rn sx L K0 R0 75 1 [vR (c0 + 2), vR (c1 + 2), vI 0] [] (mset M c0 0 (M c1 0)) Q) : Rn sx L K0 R0 75 0 [vR (c0 + 2), vR (c1 + 2), vU] [] M Q := by
  refine Rn_w (by decide) ?_
  show wpc sx L K0 R0 75 [(0, 1, .aload_n 0, []), (1, 1, .aload_n 1, []), (2, 3, .getfield 34, [5, 0, 200]), (5, 3, .putfield 34, [5, 0, 200]), (8, 1, .iconst 0, []), (9, 1, .istore_n 2, [])] 1 [vR (c0 + 2), vR (c1 + 2), vU] [] M Q
  simp only [w_al_0, w_al_1, w_gf_5_0, kin_T (kst h1), w_pf_5_0, kin_T (kst h0), w_iconst, w_is_2 (c2R _), w_fall, true_and, and_true, true_or, or_true]
  exact h
set_option maxRecDepth 8192 in
theorem b_75_1 {sx : Int → Int} {L : Nat} {c0 : Nat} {c1 : Nat} {x2 : Int} {M : Mem} {Q : Option AV → Mem → Prop} (h0 : isSt c0) (h1 : isSt c1)
    (h : ((8 : Int) ≤ x2 → Rn sx L K0 R0 75 2 [vR (c0 + 2), vR (c1 + 2), vI x2] [] M Q) ∧ (¬ ((8 : Int) ≤ x2) → ((0 : Int) ≤ x2 ∧ x2 < (8 : Int)) ∧ (((0 : Int) ≤ x2 ∧ x2 < (8 : Int)) ∧ (((0 : Int) ≤ x2 ∧ x2 < (8 : Int)) ∧ (((0 : Int) ≤ x2 ∧ x2 < (8 : Int)) ∧ (((0 : Int) ≤ x2 ∧ x2 < (8 : Int)) ∧ (((0 : Int) ≤ x2 ∧ x2 < (8 : Int)) ∧ (inR (x2 + 1) ∧ (Rn sx L K0 R0 75 1 [vR (c0 + 2), vR (c1 + 2), vI (x2 + 1)] [] (mset (mset (mset M (c0 + 1) x2 (M (c1 + 1) x2)) (c0 + 2) x2 ((mset M (c0 + 1) x2 (M (c1 + 1) x2)) (c1 + 2) x2)) (c0 + 3) x2 ((mset (mset M (c0 + 1) x2 (M (c1 + 1) x2)) (c0 + 2) x2 ((mset M (c0 + 1) x2 (M (c1 + 1) x2)) (c1 + 2) x2)) (c1 + 3) x2)) Q))))))))) : Rn sx L K0 R0 75 1 [vR (c0 + 2), vR (c1 + 2), vI x2] [] M Q := by
  refine Rn_w (by decide) ?_
  show wpc sx L K0 R0 75 [(10, 1, .iload_n 2, []), (11, 2, .bipush 8, []), (13, 3, .if_icmp .ge 45, [2]), (16, 1, .aload_n 0, []), (17, 3, .getfield 9, [5, 1, 204]), (20, 1, .iload_n 2, []), (21, 1, .aload_n 1, []), (22, 3, .getfield 9, [5, 1, 204]), (25, 1, .iload_n 2, []), (26, 1, .iaload, []), (27, 1, .iastore, []), (28, 1, .aload_n 0, []), (29, 3, .getfield 15, [5, 2, 208]), (32, 1, .iload_n 2, []), (33, 1, .aload_n 1, []), (34, 3, .getfield 15, [5, 2, 208]), (37, 1, .iload_n 2, []), (38, 1, .iaload, []), (39, 1, .iastore, []), (40, 1, .aload_n 0, []), (41, 3, .getfield 18, [5, 3, 211]), (44, 1, .iload_n 2, []), (45, 1, .aload_n 1, []), (46, 3, .getfield 18, [5, 3, 211]), (49, 1, .iload_n 2, []), (50, 1, .iaload, []), (51, 1, .iastore, []), (52, 3, .iinc 2 1, []), (55, 3, .goto (-45), [1])] 0 [vR (c0 + 2), vR (c1 + 2), vI x2] [] M Q
  simp only [w_il_2, w_bipush, w_ic_ge, w_al_0, w_gf_5_1, kin_T (kst h0), rst1 h0, w_al_1, kin_T (kst h1), rst1 h1, w_iald, arr_T ((kst1 h1)), w_iast, arr_T ((kst1 h0)), w_gf_5_2, rst2 h0, rst2 h1, arr_T ((kst2 h1)), arr_T ((kst2 h0)), w_gf_5_3, rst3 h0, rst3 h1, arr_T ((kst3 h1)), arr_T ((kst3 h0)), w_inc_2 (c2R _), w_goto, true_and, and_true, true_or, or_true]
  exact h
set_option maxRecDepth 8192 in
theorem b_75_2 {sx : Int → Int} {L : Nat} {c0 : Nat} {c1 : Nat} {x2 : Int} {M : Mem} {Q : Option AV → Mem → Prop} (h0 : isSt c0) (h1 : isSt c1)
    (h : Q none (mset (mset (mset (mset (mset (mset (mset M c0 4 (M c1 4)) c0 5 ((mset M c0 4 (M c1 4)) c1 5)) c0 6 ((mset (mset M c0 4 (M c1 4)) c0 5 ((mset M c0 4 (M c1 4)) c1 5)) c1 6)) c0 7 ((mset (mset (mset M c0 4 (M c1 4)) c0 5 ((mset M c0 4 (M c1 4)) c1 5)) c0 6 ((mset (mset M c0 4 (M c1 4)) c0 5 ((mset M c0 4 (M c1 4)) c1 5)) c1 6)) c1 7)) c0 8 ((mset (mset (mset (mset M c0 4 (M c1 4)) c0 5 ((mset M c0 4 (M c1 4)) c1 5)) c0 6 ((mset (mset M c0 4 (M c1 4)) c0 5 ((mset M c0 4 (M c1 4)) c1 5)) c1 6)) c0 7 ((mset (mset (mset M c0 4 (M c1 4)) c0 5 ((mset M c0 4 (M c1 4)) c1 5)) c0 6 ((mset (mset M c0 4 (M c1 4)) c0 5 ((mset M c0 4 (M c1 4)) c1 5)) c1 6)) c1 7)) c1 8)) c0 9 ((mset (mset (mset (mset (mset M c0 4 (M c1 4)) c0 5 ((mset M c0 4 (M c1 4)) c1 5)) c0 6 ((mset (mset M c0 4 (M c1 4)) c0 5 ((mset M c0 4 (M c1 4)) c1 5)) c1 6)) c0 7 ((mset (mset (mset M c0 4 (M c1 4)) c0 5 ((mset M c0 4 (M c1 4)) c1 5)) c0 6 ((mset (mset M c0 4 (M c1 4)) c0 5 ((mset M c0 4 (M c1 4)) c1 5)) c1 6)) c1 7)) c0 8 ((mset (mset (mset (mset M c0 4 (M c1 4)) c0 5 ((mset M c0 4 (M c1 4)) c1 5)) c0 6 ((mset (mset M c0 4 (M c1 4)) c0 5 ((mset M c0 4 (M c1 4)) c1 5)) c1 6)) c0 7 ((mset (mset (mset M c0 4 (M c1 4)) c0 5 ((mset M c0 4 (M c1 4)) c1 5)) c0 6 ((mset (mset M c0 4 (M c1 4)) c0 5 ((mset M c0 4 (M c1 4)) c1 5)) c1 6)) c1 7)) c1 8)) c1 9)) c0 10 ((mset (mset (mset (mset (mset (mset M c0 4 (M c1 4)) c0 5 ((mset M c0 4 (M c1 4)) c1 5)) c0 6 ((mset (mset M c0 4 (M c1 4)) c0 5 ((mset M c0 4 (M c1 4)) c1 5)) c1 6)) c0 7 ((mset (mset (mset M c0 4 (M c1 4)) c0 5 ((mset M c0 4 (M c1 4)) c1 5)) c0 6 ((mset (mset M c0 4 (M c1 4)) c0 5 ((mset M c0 4 (M c1 4)) c1 5)) c1 6)) c1 7)) c0 8 ((mset (mset (mset (mset M c0 4 (M c1 4)) c0 5 ((mset M c0 4 (M c1 4)) c1 5)) c0 6 ((mset (mset M c0 4 (M c1 4)) c0 5 ((mset M c0 4 (M c1 4)) c1 5)) c1 6)) c0 7 ((mset (mset (mset M c0 4 (M c1 4)) c0 5 ((mset M c0 4 (M c1 4)) c1 5)) c0 6 ((mset (mset M c0 4 (M c1 4)) c0 5 ((mset M c0 4 (M c1 4)) c1 5)) c1 6)) c1 7)) c1 8)) c0 9 ((mset (mset (mset (mset (mset M c0 4 (M c1 4)) c0 5 ((mset M c0 4 (M c1 4)) c1 5)) c0 6 ((mset (mset M c0 4 (M c1 4)) c0 5 ((mset M c0 4 (M c1 4)) c1 5)) c1 6)) c0 7 ((mset (mset (mset M c0 4 (M c1 4)) c0 5 ((mset M c0 4 (M c1 4)) c1 5)) c0 6 ((mset (mset M c0 4 (M c1 4)) c0 5 ((mset M c0 4 (M c1 4)) c1 5)) c1 6)) c1 7)) c0 8 ((mset (mset (mset (mset M c0 4 (M c1 4)) c0 5 ((mset M c0 4 (M c1 4)) c1 5)) c0 6 ((mset (mset M c0 4 (M c1 4)) c0 5 ((mset M c0 4 (M c1 4)) c1 5)) c1 6)) c0 7 ((mset (mset (mset M c0 4 (M c1 4)) c0 5 ((mset M c0 4 (M c1 4)) c1 5)) c0 6 ((mset (mset M c0 4 (M c1 4)) c0 5 ((mset M c0 4 (M c1 4)) c1 5)) c1 6)) c1 7)) c1 8)) c1 9)) c1 10))) : Rn sx L K0 R0 75 2 [vR (c0 + 2), vR (c1 + 2), vI x2] [] M Q := by
  refine Rn_w (by decide) ?_
  show wpc sx L K0 R0 75 [(58, 1, .aload_n 0, []), (59, 1, .aload_n 1, []), (60, 3, .getfield 37, [5, 4, 215]), (63, 3, .putfield 37, [5, 4, 215]), (66, 1, .aload_n 0, []), (67, 1, .aload_n 1, []), (68, 3, .getfield 40, [5, 5, 219]), (71, 3, .putfield 40, [5, 5, 219]), (74, 1, .aload_n 0, []), (75, 1, .aload_n 1, []), (76, 3, .getfield 21, [5, 6, 222]), (79, 3, .putfield 21, [5, 6, 222]), (82, 1, .aload_n 0, []), (83, 1, .aload_n 1, []), (84, 3, .getfield 25, [5, 7, 226]), (87, 3, .putfield 25, [5, 7, 226]), (90, 1, .aload_n 0, []), (91, 1, .aload_n 1, []), (92, 3, .getfield 28, [5, 8, 229]), (95, 3, .putfield 28, [5, 8, 229]), (98, 1, .aload_n 0, []), (99, 1, .aload_n 1, []), (100, 3, .getfield 31, [5, 9, 232]), (103, 3, .putfield 31, [5, 9, 232]), (106, 1, .aload_n 0, []), (107, 1, .aload_n 1, []), (108, 3, .getfield 43, [5, 10, 235]), (111, 3, .putfield 43, [5, 10, 235]), (114, 1, .return_, [])] 0 [vR (c0 + 2), vR (c1 + 2), vI x2] [] M Q
  simp only [w_al_0, w_al_1, w_gf_5_4, kin_T (kst h1), w_pf_5_4, kin_T (kst h0), w_gf_5_5, w_pf_5_5, w_gf_5_6, w_pf_5_6, w_gf_5_7, w_pf_5_7, w_gf_5_8, w_pf_5_8, w_gf_5_9, w_pf_5_9, w_gf_5_10, w_pf_5_10, w_ret0 rk_75, true_and, and_true, true_or, or_true]
  exact h
theorem b_76_0 {sx : Int → Int} {L : Nat} {c0 : Nat} {x1 : Int} {M : Mem} {Q : Option AV → Mem → Prop} (h0 : isSt c0)
    (h : (x1 < 0 ∨ 2 < x1 → Rn sx L K0 R0 76 4 [vR (c0 + 2), vI x1] [] M Q) ∧ (x1 = 0 → Rn sx L K0 R0 76 1 [vR (c0 + 2), vI x1] [] M Q) ∧ (x1 = 1 → Rn sx L K0 R0 76 2 [vR (c0 + 2), vI x1] [] M Q) ∧ (x1 = 2 → Rn sx L K0 R0 76 3 [vR (c0 + 2), vI x1] [] M Q)) : Rn sx L K0 R0 76 0 [vR (c0 + 2), vI x1] [] M Q := by
  refine Rn_w (by decide) ?_
  show wpc sx L K0 R0 76 [(0, 1, .iload_n 1, []), (1, 27, .tableswitch 42 0 2 #[27, 32, 37], [4, 1, 2, 3])] 0 [vR (c0 + 2), vI x1] [] M Q
  simp only [w_il_1, w_tsw, swt, true_and, and_true, true_or, or_true]
  exact h
theorem b_76_1 {sx : Int → Int} {L : Nat} {c0 : Nat} {x1 : Int} {M : Mem} {Q : Option AV → Mem → Prop} (h0 : isSt c0)
    (h : Q (some (vI (M c0 4))) M) : Rn sx L K0 R0 76 1 [vR (c0 + 2), vI x1] [] M Q := by
  refine Rn_w (by decide) ?_
  show wpc sx L K0 R0 76 [(28, 1, .aload_n 0, []), (29, 3, .getfield 37, [5, 4, 215]), (32, 1, .ireturn, [])] 0 [vR (c0 + 2), vI x1] [] M Q
  simp only [w_al_0, w_gf_5_4, kin_T (kst h0), w_ret1 rk_76, true_and, and_true, true_or, or_true]
  exact h
theorem b_76_2 {sx : Int → Int} {L : Nat} {c0 : Nat} {x1 : Int} {M : Mem} {Q : Option AV → Mem → Prop} (h0 : isSt c0)
    (h : Q (some (vI (M c0 5))) M) : Rn sx L K0 R0 76 2 [vR (c0 + 2), vI x1] [] M Q := by
  refine Rn_w (by decide) ?_
  show wpc sx L K0 R0 76 [(33, 1, .aload_n 0, []), (34, 3, .getfield 40, [5, 5, 219]), (37, 1, .ireturn, [])] 0 [vR (c0 + 2), vI x1] [] M Q
  simp only [w_al_0, w_gf_5_5, kin_T (kst h0), w_ret1 rk_76, true_and, and_true, true_or, or_true]
  exact h
theorem b_76_3 {sx : Int → Int} {L : Nat} {c0 : Nat} {x1 : Int} {M : Mem} {Q : Option AV → Mem → Prop} (h0 : isSt c0)
    (h : Q (some (vI (M c0 6))) M) : Rn sx L K0 R0 76 3 [vR (c0 + 2), vI x1] [] M Q := by
  refine Rn_w (by decide) ?_
  show wpc sx L K0 R0 76 [(38, 1, .aload_n 0, []), (39, 3, .getfield 21, [5, 6, 222]), (42, 1, .ireturn, [])] 0 [vR (c0 + 2), vI x1] [] M Q
  simp only [w_al_0, w_gf_5_6, kin_T (kst h0), w_ret1 rk_76, true_and, and_true, true_or, or_true]
  exact h
theorem b_76_4 {sx : Int → Int} {L : Nat} {c0 : Nat} {x1 : Int} {M : Mem} {Q : Option AV → Mem → Prop} (h0 : isSt c0)
    (h : Q (some (vI (M c0 7))) M) : Rn sx L K0 R0 76 4 [vR (c0 + 2), vI x1] [] M Q := by
  refine Rn_w (by decide) ?_
  show wpc sx L K0 R0 76 [(43, 1, .aload_n 0, []), (44, 3, .getfield 25, [5, 7, 226]), (47, 1, .ireturn, [])] 0 [vR (c0 + 2), vI x1] [] M Q
  simp only [w_al_0, w_gf_5_7, kin_T (kst h0), w_ret1 rk_76, true_and, and_true, true_or, or_true]
  exact h
theorem b_77_0 {sx : Int → Int} {L : Nat} {c0 : Nat} {x1 : Int} {x2 : Int} {M : Mem} {Q : Option AV → Mem → Prop} (h0 : isSt c0)
    (h : (x1 < 0 ∨ 2 < x1 → Rn sx L K0 R0 77 4 [vR (c0 + 2), vI x1, vI x2] [] M Q) ∧ (x1 = 0 → Rn sx L K0 R0 77 1 [vR (c0 + 2), vI x1, vI x2] [] M Q) ∧ (x1 = 1 → Rn sx L K0 R0 77 2 [vR (c0 + 2), vI x1, vI x2] [] M Q) ∧ (x1 = 2 → Rn sx L K0 R0 77 3 [vR (c0 + 2), vI x1, vI x2] [] M Q)) : Rn sx L K0 R0 77 0 [vR (c0 + 2), vI x1, vI x2] [] M Q := by
  refine Rn_w (by decide) ?_
  show wpc sx L K0 R0 77 [(0, 1, .iload_n 1, []), (1, 27, .tableswitch 51 0 2 #[27, 35, 43], [4, 1, 2, 3])] 0 [vR (c0 + 2), vI x1, vI x2] [] M Q
  simp only [w_il_1, w_tsw, swt, true_and, and_true, true_or, or_true]
  exact h
theorem b_77_1 {sx : Int → Int} {L : Nat} {c0 : Nat} {x1 : Int} {x2 : Int} {M : Mem} {Q : Option AV → Mem → Prop} (h0 : isSt c0)
    (h : Rn sx L K0 R0 77 5 [vR (c0 + 2), vI x1, vI x2] [] (mset M c0 4 x2) Q) : Rn sx L K0 R0 77 1 [vR (c0 + 2), vI x1, vI x2] [] M Q := by
  refine Rn_w (by decide) ?_
  show wpc sx L K0 R0 77 [(28, 1, .aload_n 0, []), (29, 1, .iload_n 2, []), (30, 3, .putfield 37, [5, 4, 215]), (33, 3, .goto 24, [5])] 0 [vR (c0 + 2), vI x1, vI x2] [] M Q
  simp only [w_al_0, w_il_2, w_pf_5_4, kin_T (kst h0), w_goto, true_and, and_true, true_or, or_true]
  exact h
theorem b_77_2 {sx : Int → Int} {L : Nat} {c0 : Nat} {x1 : Int} {x2 : Int} {M : Mem} {Q : Option AV → Mem → Prop} (h0 : isSt c0)
    (h : Rn sx L K0 R0 77 5 [vR (c0 + 2), vI x1, vI x2] [] (mset M c0 5 x2) Q) : Rn sx L K0 R0 77 2 [vR (c0 + 2), vI x1, vI x2] [] M Q := by
  refine Rn_w (by decide) ?_
  show wpc sx L K0 R0 77 [(36, 1, .aload_n 0, []), (37, 1, .iload_n 2, []), (38, 3, .putfield 40, [5, 5, 219]), (41, 3, .goto 16, [5])] 0 [vR (c0 + 2), vI x1, vI x2] [] M Q
  simp only [w_al_0, w_il_2, w_pf_5_5, kin_T (kst h0), w_goto, true_and, and_true, true_or, or_true]
  exact h
theorem b_77_3 {sx : Int → Int} {L : Nat} {c0 : Nat} {x1 : Int} {x2 : Int} {M : Mem} {Q : Option AV → Mem → Prop} (h0 : isSt c0)
    (h : Rn sx L K0 R0 77 5 [vR (c0 + 2), vI x1, vI x2] [] (mset M c0 6 x2) Q) : Rn sx L K0 R0 77 3 [vR (c0 + 2), vI x1, vI x2] [] M Q := by
  refine Rn_w (by decide) ?_
  show wpc sx L K0 R0 77 [(44, 1, .aload_n 0, []), (45, 1, .iload_n 2, []), (46, 3, .putfield 21, [5, 6, 222]), (49, 3, .goto 8, [5])] 0 [vR (c0 + 2), vI x1, vI x2] [] M Q
  simp only [w_al_0, w_il_2, w_pf_5_6, kin_T (kst h0), w_goto, true_and, and_true, true_or, or_true]
  exact h
theorem b_77_4 {sx : Int → Int} {L : Nat} {c0 : Nat} {x1 : Int} {x2 : Int} {M : Mem} {Q : Option AV → Mem → Prop} (h0 : isSt c0)
    (h : Rn sx L K0 R0 77 5 [vR (c0 + 2), vI x1, vI x2] [] (mset M c0 7 x2) Q) : Rn sx L K0 R0 77 4 [vR (c0 + 2), vI x1, vI x2] [] M Q := by
  refine Rn_w (by decide) ?_
  show wpc sx L K0 R0 77 [(52, 1, .aload_n 0, []), (53, 1, .iload_n 2, []), (54, 3, .putfield 25, [5, 7, 226])] 5 [vR (c0 + 2), vI x1, vI x2] [] M Q
  simp only [w_al_0, w_il_2, w_pf_5_7, kin_T (kst h0), w_fall, true_and, and_true, true_or, or_true]
  exact h
theorem b_77_5 {sx : Int → Int} {L : Nat} {c0 : Nat} {x1 : Int} {x2 : Int} {M : Mem} {Q : Option AV → Mem → Prop} (h0 : isSt c0)
    (h : Q none M) : Rn sx L K0 R0 77 5 [vR (c0 + 2), vI x1, vI x2] [] M Q := by
  refine Rn_w (by decide) ?_
  show wpc sx L K0 R0 77 [(57, 1, .return_, [])] 0 [vR (c0 + 2), vI x1, vI x2] [] M Q
  simp only [w_ret0 rk_77, true_and, and_true, true_or, or_true]
  exact h
theorem b_78_0 {sx : Int → Int} {L : Nat} {c0 : Nat} {x1 : Int} {M : Mem} {Q : Option AV → Mem → Prop} (h0 : isSt c0)
    (h : ((0 : Int) ≤ M c0 0 ∧ (0 : Int) ≤ x1 ∧ x1 ≤ (30 : Int)) ∧ ((iAnd ((M c0 0) / 2 ^ (x1).toNat) 1 = (0 : Int) → Rn sx L K0 R0 78 1 [vR (c0 + 2), vI x1] [] M Q) ∧ (¬ (iAnd ((M c0 0) / 2 ^ (x1).toNat) 1 = (0 : Int)) → Rn sx L K0 R0 78 2 [vR (c0 + 2), vI x1] [vI 1] M Q))) : Rn sx L K0 R0 78 0 [vR (c0 + 2), vI x1] [] M Q := by
  refine Rn_w (by decide) ?_
  show wpc sx L K0 R0 78 [(0, 1, .aload_n 0, []), (1, 3, .getfield 34, [5, 0, 200]), (4, 1, .iload_n 1, []), (5, 1, .ishr, []), (6, 1, .iconst 1, []), (7, 1, .iand, []), (8, 3, .ifCond .eq 7, [1]), (11, 1, .iconst 1, []), (12, 3, .goto 4, [2])] 0 [vR (c0 + 2), vI x1] [] M Q
  simp only [w_al_0, w_gf_5_0, kin_T (kst h0), w_il_1, w_ishr, w_iconst, w_iand, w_if_eq, w_goto, true_and, and_true, true_or, or_true]
  exact h
theorem b_78_1 {sx : Int → Int} {L : Nat} {c0 : Nat} {x1 : Int} {M : Mem} {Q : Option AV → Mem → Prop} (h0 : isSt c0)
    (h : Rn sx L K0 R0 78 2 [vR (c0 + 2), vI x1] [vI 0] M Q) : Rn sx L K0 R0 78 1 [vR (c0 + 2), vI x1] [] M Q := by
  refine Rn_w (by decide) ?_
  show wpc sx L K0 R0 78 [(15, 1, .iconst 0, [])] 2 [vR (c0 + 2), vI x1] [] M Q
  simp only [w_iconst, w_fall, true_and, and_true, true_or, or_true]
  exact h
theorem b_78_2 {sx : Int → Int} {L : Nat} {c0 : Nat} {x1 : Int} {y0 : Int} {M : Mem} {Q : Option AV → Mem → Prop} (h0 : isSt c0)
    (h : (y0 = 0 ∨ y0 = 1) ∧ (Q (some (vI y0)) M)) : Rn sx L K0 R0 78 2 [vR (c0 + 2), vI x1] [vI y0] M Q := by
  refine Rn_w (by decide) ?_
  show wpc sx L K0 R0 78 [(16, 1, .ireturn, [])] 0 [vR (c0 + 2), vI x1] [vI y0] M Q
  simp only [w_ret2 rk_78, true_and, and_true, true_or, or_true]
  exact h
theorem b_79_0 {sx : Int → Int} {L : Nat} {c0 : Nat} {M : Mem} {Q : Option AV → Mem → Prop} (h0 : isSt c0)
    (h : (M c0 4 = (0 : Int) → Rn sx L K0 R0 79 1 [vR (c0 + 2)] [] M Q) ∧ (¬ (M c0 4 = (0 : Int)) → (¬ M c0 5 = (2 : Int) → Rn sx L K0 R0 79 2 [vR (c0 + 2)] [] M Q) ∧ (¬ (¬ M c0 5 = (2 : Int)) → Rn sx L K0 R0 79 1 [vR (c0 + 2)] [] M Q))) : Rn sx L K0 R0 79 0 [vR (c0 + 2)] [] M Q := by
  refine Rn_w (by decide) ?_
  show wpc sx L K0 R0 79 [(0, 1, .aload_n 0, []), (1, 3, .getfield 37, [5, 4, 215]), (4, 3, .ifCond .eq 11, [1]), (7, 1, .aload_n 0, []), (8, 3, .getfield 40, [5, 5, 219]), (11, 1, .iconst 2, []), (12, 3, .if_icmp .ne 7, [2])] 1 [vR (c0 + 2)] [] M Q
  simp only [w_al_0, w_gf_5_4, kin_T (kst h0), w_if_eq, w_gf_5_5, w_iconst, w_ic_ne, w_fall, true_and, and_true, true_or, or_true]
  exact h
theorem b_79_1 {sx : Int → Int} {L : Nat} {c0 : Nat} {M : Mem} {Q : Option AV → Mem → Prop} (h0 : isSt c0)
    (h : Rn sx L K0 R0 79 3 [vR (c0 + 2)] [vI 1] M Q) : Rn sx L K0 R0 79 1 [vR (c0 + 2)] [] M Q := by
  refine Rn_w (by decide) ?_
  show wpc sx L K0 R0 79 [(15, 1, .iconst 1, []), (16, 3, .goto 4, [3])] 0 [vR (c0 + 2)] [] M Q
  simp only [w_iconst, w_goto, true_and, and_true, true_or, or_true]
  exact h
theorem b_79_2 {sx : Int → Int} {L : Nat} {c0 : Nat} {M : Mem} {Q : Option AV → Mem → Prop} (h0 : isSt c0)
    (h : Rn sx L K0 R0 79 3 [vR (c0 + 2)] [vI 0] M Q) : Rn sx L K0 R0 79 2 [vR (c0 + 2)] [] M Q := by
  refine Rn_w (by decide) ?_
  show wpc sx L K0 R0 79 [(19, 1, .iconst 0, [])] 3 [vR (c0 + 2)] [] M Q
  simp only [w_iconst, w_fall, true_and, and_true, true_or, or_true]
  exact h
theorem b_79_3 {sx : Int → Int} {L : Nat} {c0 : Nat} {y0 : Int} {M : Mem} {Q : Option AV → Mem → Prop} (h0 : isSt c0)
    (h : (y0 = 0 ∨ y0 = 1) ∧ (Q (some (vI y0)) M)) : Rn sx L K0 R0 79 3 [vR (c0 + 2)] [vI y0] M Q := by
  refine Rn_w (by decide) ?_
  show wpc sx L K0 R0 79 [(20, 1, .ireturn, [])] 0 [vR (c0 + 2)] [vI y0] M Q
  simp only [w_ret2 rk_79, true_and, and_true, true_or, or_true]
  exact h
theorem b_80_0 {sx : Int → Int} {L : Nat} {c0 : Nat} {x1 : Int} {M : Mem} {Q : Option AV → Mem → Prop} (h0 : isSt c0)
    (h : Mq sx L K0 R0 125 [vI x1] M (fun rv M1 => ∃ r1, rv = some (vI r1) ∧ ((r1 = (0 : Int) → Rn sx L K0 R0 80 1 [vR (c0 + 2), vI x1] [] M1 Q) ∧ (¬ (r1 = (0 : Int)) → ((0 : Int) ≤ x1 ∧ x1 < (8 : Int)) ∧ (Rn sx L K0 R0 80 2 [vR (c0 + 2), vI x1] [vI (M1 (c0 + 1) x1)] M1 Q))))) : Rn sx L K0 R0 80 0 [vR (c0 + 2), vI x1] [] M Q := by
  refine Rn_w (by decide) ?_
  show wpc sx L K0 R0 80 [(0, 1, .iload_n 1, []), (1, 3, .invokestatic 46, [125, 888, 1]), (4, 3, .ifCond .eq 12, [1]), (7, 1, .aload_n 0, []), (8, 3, .getfield 9, [5, 1, 204]), (11, 1, .iload_n 1, []), (12, 1, .iaload, []), (13, 3, .goto 4, [2])] 0 [vR (c0 + 2), vI x1] [] M Q
  simp only [w_il_1, w_ivs_1 (c2I _) cs0, rk_125, rvk2, List.cons_append, List.nil_append, w_if_eq, w_al_0, w_gf_5_1, kin_T (kst h0), rst1 h0, w_iald, arr_T ((kst1 h0)), w_goto, true_and, and_true, true_or, or_true]
  exact h
theorem b_80_1 {sx : Int → Int} {L : Nat} {c0 : Nat} {x1 : Int} {M : Mem} {Q : Option AV → Mem → Prop} (h0 : isSt c0)
    (h : Rn sx L K0 R0 80 2 [vR (c0 + 2), vI x1] [vI 0] M Q) : Rn sx L K0 R0 80 1 [vR (c0 + 2), vI x1] [] M Q := by
  refine Rn_w (by decide) ?_
  show wpc sx L K0 R0 80 [(16, 1, .iconst 0, [])] 2 [vR (c0 + 2), vI x1] [] M Q
  simp only [w_iconst, w_fall, true_and, and_true, true_or, or_true]
  exact h
theorem b_80_2 {sx : Int → Int} {L : Nat} {c0 : Nat} {x1 : Int} {y0 : Int} {M : Mem} {Q : Option AV → Mem → Prop} (h0 : isSt c0)
    (h : Q (some (vI y0)) M) : Rn sx L K0 R0 80 2 [vR (c0 + 2), vI x1] [vI y0] M Q := by
  refine Rn_w (by decide) ?_
  show wpc sx L K0 R0 80 [(17, 1, .ireturn, [])] 0 [vR (c0 + 2), vI x1] [vI y0] M Q
  simp only [w_ret1 rk_80, true_and, and_true, true_or, or_true]
  exact h
theorem b_81_0 {sx : Int → Int} {L : Nat} {c0 : Nat} {x1 : Int} {M : Mem} {Q : Option AV → Mem → Prop} (h0 : isSt c0)
    (h : Rn sx L K0 R0 81 1 [vR (c0 + 2), vI x1, vI 0, vI 0] [] M Q) : Rn sx L K0 R0 81 0 [vR (c0 + 2), vI x1, vU, vU] [] M Q := by
  refine Rn_w (by decide) ?_
  show wpc sx L K0 R0 81 [(0, 1, .iconst 0, []), (1, 1, .istore_n 2, []), (2, 1, .iconst 0, []), (3, 1, .istore_n 3, [])] 1 [vR (c0 + 2), vI x1, vU, vU] [] M Q
  simp only [w_iconst, w_is_2 (c2I _), w_is_3 (c2I _), w_fall, true_and, and_true, true_or, or_true]
  exact h
theorem b_81_1 {sx : Int → Int} {L : Nat} {c0 : Nat} {x1 : Int} {x2 : Int} {x3 : Int} {M : Mem} {Q : Option AV → Mem → Prop} (h0 : isSt c0)
    (h : ((8 : Int) ≤ x3 → Rn sx L K0 R0 81 3 [vR (c0 + 2), vI x1, vI x2, vI x3] [] M Q) ∧ (¬ ((8 : Int) ≤ x3) → ((0 : Int) ≤ x3 ∧ x3 < (8 : Int)) ∧ (Mq sx L K0 R0 80 [vR (c0 + 2), vI x1] M (fun rv M1 => ∃ r1, rv = some (vI r1) ∧ ((r1 ≤ M (c0 + 1) x3 → Rn sx L K0 R0 81 2 [vR (c0 + 2), vI x1, vI x2, vI x3] [] M1 Q) ∧ (¬ (r1 ≤ M (c0 + 1) x3) → ((0 : Int) ≤ (1 : Int) ∧ (0 : Int) ≤ x3 ∧ x3 ≤ (30 : Int) ∧ (1 : Int) * 2 ^ (x3).toNat ≤ (2147483647 : Int)) ∧ (Rn sx L K0 R0 81 2 [vR (c0 + 2), vI x1, vI (iOr x2 ((1 : Int) * 2 ^ (x3).toNat)), vI x3] [] M1 Q))))))) : Rn sx L K0 R0 81 1 [vR (c0 + 2), vI x1, vI x2, vI x3] [] M Q := by
  refine Rn_w (by decide) ?_
  show wpc sx L K0 R0 81 [(4, 1, .iload_n 3, []), (5, 2, .bipush 8, []), (7, 3, .if_icmp .ge 29, [3]), (10, 1, .aload_n 0, []), (11, 3, .getfield 9, [5, 1, 204]), (14, 1, .iload_n 3, []), (15, 1, .iaload, []), (16, 1, .aload_n 0, []), (17, 1, .iload_n 1, []), (18, 3, .invokevirtual 50, [80, 884, 1]), (21, 3, .if_icmp .ge 9, [2]), (24, 1, .iload_n 2, []), (25, 1, .iconst 1, []), (26, 1, .iload_n 3, []), (27, 1, .ishl, []), (28, 1, .ior, []), (29, 1, .istore_n 2, [])] 2 [vR (c0 + 2), vI x1, vI x2, vI x3] [] M Q
  simp only [w_il_3, w_bipush, w_ic_ge, w_al_0, w_gf_5_1, kin_T (kst h0), rst1 h0, w_iald, arr_T ((kst1 h0)), w_il_1, w_ivv_1 (c2I _) (cs1 _), mk_80, rk_80, rvk1, List.cons_append, List.nil_append, w_il_2, w_iconst, w_ishl, w_ior, w_is_2 (c2I _), w_fall, true_and, and_true, true_or, or_true]
  exact h
theorem b_81_2 {sx : Int → Int} {L : Nat} {c0 : Nat} {x1 : Int} {x2 : Int} {x3 : Int} {M : Mem} {Q : Option AV → Mem → Prop} (h0 : isSt c0)
    (h : inR (x3 + 1) ∧ (Rn sx L K0 R0 81 1 [vR (c0 + 2), vI x1, vI x2, vI (x3 + 1)] [] M Q)) : Rn sx L K0 R0 81 2 [vR (c0 + 2), vI x1, vI x2, vI x3] [] M Q := by
  refine Rn_w (by decide) ?_
  show wpc sx L K0 R0 81 [(30, 3, .iinc 3 1, []), (33, 3, .goto (-29), [1])] 0 [vR (c0 + 2), vI x1, vI x2, vI x3] [] M Q
  simp only [w_inc_3 (c2I _), w_goto, true_and, and_true, true_or, or_true]
  exact h
theorem b_81_3 {sx : Int → Int} {L : Nat} {c0 : Nat} {x1 : Int} {x2 : Int} {x3 : Int} {M : Mem} {Q : Option AV → Mem → Prop} (h0 : isSt c0)
    (h : Q (some (vI x2)) M) : Rn sx L K0 R0 81 3 [vR (c0 + 2), vI x1, vI x2, vI x3] [] M Q := by
  refine Rn_w (by decide) ?_
  show wpc sx L K0 R0 81 [(36, 1, .iload_n 2, []), (37, 1, .ireturn, [])] 0 [vR (c0 + 2), vI x1, vI x2, vI x3] [] M Q
  simp only [w_il_2, w_ret1 rk_81, true_and, and_true, true_or, or_true]
  exact h
theorem b_82_0 {sx : Int → Int} {L : Nat} {c0 : Nat} {x1 : Int} {x2 : Int} {M : Mem} {Q : Option AV → Mem → Prop} (h0 : isSt c0)
    (h : (x1 = x2 → Rn sx L K0 R0 82 1 [vR (c0 + 2), vI x1, vI x2, vU] [] M Q) ∧ (¬ (x1 = x2) → Mq sx L K0 R0 78 [vR (c0 + 2), vI x1] M (fun rv M1 => ∃ r1, rv = some (vI r1) ∧ ((¬ r1 = (0 : Int) → Rn sx L K0 R0 82 2 [vR (c0 + 2), vI x1, vI x2, vU] [] M1 Q) ∧ (¬ (¬ r1 = (0 : Int)) → Rn sx L K0 R0 82 1 [vR (c0 + 2), vI x1, vI x2, vU] [] M1 Q))))) : Rn sx L K0 R0 82 0 [vR (c0 + 2), vI x1, vI x2, vU] [] M Q := by
  refine Rn_w (by decide) ?_
  show wpc sx L K0 R0 82 [(0, 1, .iload_n 1, []), (1, 1, .iload_n 2, []), (2, 3, .if_icmp .eq 11, [1]), (5, 1, .aload_n 0, []), (6, 1, .iload_n 1, []), (7, 3, .invokevirtual 54, [78, 927, 1]), (10, 3, .ifCond .ne 5, [2])] 1 [vR (c0 + 2), vI x1, vI x2, vU] [] M Q
  simp only [w_il_1, w_il_2, w_ic_eq, w_al_0, w_ivv_1 (c2I _) cs0, mk_78, kin_T (kst h0), rk_78, rvk2, List.cons_append, List.nil_append, w_if_ne, w_fall, true_and, and_true, true_or, or_true]
  exact h
theorem b_82_1 {sx : Int → Int} {L : Nat} {c0 : Nat} {x1 : Int} {x2 : Int} {M : Mem} {Q : Option AV → Mem → Prop} (h0 : isSt c0)
    (h : Q (some (vI 0)) M) : Rn sx L K0 R0 82 1 [vR (c0 + 2), vI x1, vI x2, vU] [] M Q := by
  refine Rn_w (by decide) ?_
  show wpc sx L K0 R0 82 [(13, 1, .iconst 0, []), (14, 1, .ireturn, [])] 0 [vR (c0 + 2), vI x1, vI x2, vU] [] M Q
  simp only [w_iconst, w_ret2 rk_82, b01_0, true_and, and_true, true_or, or_true]
  exact h
theorem b_82_2 {sx : Int → Int} {L : Nat} {c0 : Nat} {x1 : Int} {x2 : Int} {M : Mem} {Q : Option AV → Mem → Prop} (h0 : isSt c0)
    (h : Mq sx L K0 R0 80 [vR (c0 + 2), vI x1] M (fun rv M1 => ∃ r1, rv = some (vI r1) ∧ (Mq sx L K0 R0 80 [vR (c0 + 2), vI x2] M1 (fun rv M2 => ∃ r2, rv = some (vI r2) ∧ (inR (r1 - r2) ∧ (((0 : Int) < r1 - r2 → Rn sx L K0 R0 82 3 [vR (c0 + 2), vI x1, vI x2, vI (r1 - r2)] [] M2 Q) ∧ (¬ ((0 : Int) < r1 - r2) → (¬ r1 - r2 = (0 : Int) → Rn sx L K0 R0 82 4 [vR (c0 + 2), vI x1, vI x2, vI (r1 - r2)] [] M2 Q) ∧ (¬ (¬ r1 - r2 = (0 : Int)) → (x2 ≤ x1 → Rn sx L K0 R0 82 4 [vR (c0 + 2), vI x1, vI x2, vI (r1 - r2)] [] M2 Q) ∧ (¬ (x2 ≤ x1) → Rn sx L K0 R0 82 3 [vR (c0 + 2), vI x1, vI x2, vI (r1 - r2)] [] M2 Q))))))))) : Rn sx L K0 R0 82 2 [vR (c0 + 2), vI x1, vI x2, vU] [] M Q := by
  refine Rn_w (by decide) ?_
  show wpc sx L K0 R0 82 [(15, 1, .aload_n 0, []), (16, 1, .iload_n 1, []), (17, 3, .invokevirtual 50, [80, 884, 1]), (20, 1, .aload_n 0, []), (21, 1, .iload_n 2, []), (22, 3, .invokevirtual 50, [80, 884, 1]), (25, 1, .isub, []), (26, 1, .istore_n 3, []), (27, 1, .iload_n 3, []), (28, 3, .ifCond .gt 12, [3]), (31, 1, .iload_n 3, []), (32, 3, .ifCond .ne 12, [4]), (35, 1, .iload_n 1, []), (36, 1, .iload_n 2, []), (37, 3, .if_icmp .ge 7, [4])] 3 [vR (c0 + 2), vI x1, vI x2, vU] [] M Q
  simp only [w_al_0, w_il_1, w_ivv_1 (c2I _) cs0, mk_80, kin_T (kst h0), rk_80, rvk1, List.cons_append, List.nil_append, w_il_2, w_ivv_1 (c2I _) (cs1 _), w_isub, w_is_3 (c2I _), w_il_3, w_if_gt, w_if_ne, w_ic_ge, w_fall, true_and, and_true, true_or, or_true]
  exact h
theorem b_82_3 {sx : Int → Int} {L : Nat} {c0 : Nat} {x1 : Int} {x2 : Int} {x3 : Int} {M : Mem} {Q : Option AV → Mem → Prop} (h0 : isSt c0)
    (h : Rn sx L K0 R0 82 5 [vR (c0 + 2), vI x1, vI x2, vI x3] [vI 1] M Q) : Rn sx L K0 R0 82 3 [vR (c0 + 2), vI x1, vI x2, vI x3] [] M Q := by
  refine Rn_w (by decide) ?_
  show wpc sx L K0 R0 82 [(40, 1, .iconst 1, []), (41, 3, .goto 4, [5])] 0 [vR (c0 + 2), vI x1, vI x2, vI x3] [] M Q
  simp only [w_iconst, w_goto, true_and, and_true, true_or, or_true]
  exact h
theorem b_82_4 {sx : Int → Int} {L : Nat} {c0 : Nat} {x1 : Int} {x2 : Int} {x3 : Int} {M : Mem} {Q : Option AV → Mem → Prop} (h0 : isSt c0)
    (h : Rn sx L K0 R0 82 5 [vR (c0 + 2), vI x1, vI x2, vI x3] [vI 0] M Q) : Rn sx L K0 R0 82 4 [vR (c0 + 2), vI x1, vI x2, vI x3] [] M Q := by
  refine Rn_w (by decide) ?_
  show wpc sx L K0 R0 82 [(44, 1, .iconst 0, [])] 5 [vR (c0 + 2), vI x1, vI x2, vI x3] [] M Q
  simp only [w_iconst, w_fall, true_and, and_true, true_or, or_true]
  exact h
theorem b_82_5 {sx : Int → Int} {L : Nat} {c0 : Nat} {x1 : Int} {x2 : Int} {x3 : Int} {y0 : Int} {M : Mem} {Q : Option AV → Mem → Prop} (h0 : isSt c0)
    (h : (y0 = 0 ∨ y0 = 1) ∧ (Q (some (vI y0)) M)) : Rn sx L K0 R0 82 5 [vR (c0 + 2), vI x1, vI x2, vI x3] [vI y0] M Q := by
  refine Rn_w (by decide) ?_
  show wpc sx L K0 R0 82 [(45, 1, .ireturn, [])] 0 [vR (c0 + 2), vI x1, vI x2, vI x3] [vI y0] M Q
  simp only [w_ret2 rk_82, true_and, and_true, true_or, or_true]
  exact h
theorem b_84_0 {sx : Int → Int} {L : Nat} {c0 : Nat} {x1 : Int} {x2 : Int} {M : Mem} {Q : Option AV → Mem → Prop} (h0 : isSh c0)
    (h : Rn sx L K0 R0 84 1 [vR (c0 + 2), vI x1, vI x2, vI 0] [] (mset (mset (mset M c0 0 0) c0 1 x1) c0 2 x2) Q) : Rn sx L K0 R0 84 0 [vR (c0 + 2), vI x1, vI x2, vU] [] M Q := by
  refine Rn_w (by decide) ?_
  show wpc sx L K0 R0 84 [(0, 1, .aload_n 0, []), (1, 1, .iconst 0, []), (2, 3, .putfield 9, [6, 0, 330]), (5, 1, .aload_n 0, []), (6, 1, .iload_n 1, []), (7, 3, .putfield 19, [6, 1, 332]), (10, 1, .aload_n 0, []), (11, 1, .iload_n 2, []), (12, 3, .putfield 23, [6, 2, 334]), (15, 1, .iconst 0, []), (16, 1, .istore_n 3, [])] 1 [vR (c0 + 2), vI x1, vI x2, vU] [] M Q
  simp only [w_al_0, w_iconst, w_pf_6_0, kin_T (ksh h0), b01_0, w_il_1, w_pf_6_1, w_il_2, w_pf_6_2, w_is_3 (c2I _), w_fall, true_and, and_true, true_or, or_true]
  exact h
theorem b_84_1 {sx : Int → Int} {L : Nat} {c0 : Nat} {x1 : Int} {x2 : Int} {x3 : Int} {M : Mem} {Q : Option AV → Mem → Prop} (h0 : isSh c0)
    (h : ((60 : Int) ≤ x3 → Rn sx L K0 R0 84 2 [vR (c0 + 2), vI x1, vI x2, vI x3] [] M Q) ∧ (¬ ((60 : Int) ≤ x3) → ((0 : Int) ≤ x3 ∧ x3 < (60 : Int)) ∧ (inR (x3 + 1) ∧ (Rn sx L K0 R0 84 1 [vR (c0 + 2), vI x1, vI x2, vI (x3 + 1)] [] (mset M (c0 + 1) x3 0) Q)))) : Rn sx L K0 R0 84 1 [vR (c0 + 2), vI x1, vI x2, vI x3] [] M Q := by
  refine Rn_w (by decide) ?_
  show wpc sx L K0 R0 84 [(17, 1, .iload_n 3, []), (18, 2, .bipush 60, []), (20, 3, .if_icmp .ge 16, [2]), (23, 1, .aload_n 0, []), (24, 3, .getfield 15, [6, 3, 337]), (27, 1, .iload_n 3, []), (28, 1, .iconst 0, []), (29, 1, .iastore, []), (30, 3, .iinc 3 1, []), (33, 3, .goto (-16), [1])] 0 [vR (c0 + 2), vI x1, vI x2, vI x3] [] M Q
  simp only [w_il_3, w_bipush, w_ic_ge, w_al_0, w_gf_6_3, kin_T (ksh h0), rsh3 h0, w_iconst, w_iast, arr_T ((ksh1 h0)), w_inc_3 (c2I _), w_goto, true_and, and_true, true_or, or_true]
  exact h
theorem b_84_2 {sx : Int → Int} {L : Nat} {c0 : Nat} {x1 : Int} {x2 : Int} {x3 : Int} {M : Mem} {Q : Option AV → Mem → Prop} (h0 : isSh c0)
    (h : Q none M) : Rn sx L K0 R0 84 2 [vR (c0 + 2), vI x1, vI x2, vI x3] [] M Q := by
  refine Rn_w (by decide) ?_
  show wpc sx L K0 R0 84 [(36, 1, .return_, [])] 0 [vR (c0 + 2), vI x1, vI x2, vI x3] [] M Q
  simp only [w_ret0 rk_84, true_and, and_true, true_or, or_true]
  exact h
theorem b_85_0 {sx : Int → Int} {L : Nat} {c0 : Nat} {x1 : Int} {x2 : Int} {M : Mem} {Q : Option AV → Mem → Prop} (h0 : isSh c0)
    (h : (M c0 0 = (0 : Int) → Rn sx L K0 R0 85 1 [vR (c0 + 2), vI x1, vI x2] [] M Q) ∧ (¬ (M c0 0 = (0 : Int)) → Q (some (vI 1)) M)) : Rn sx L K0 R0 85 0 [vR (c0 + 2), vI x1, vI x2] [] M Q := by
  refine Rn_w (by decide) ?_
  show wpc sx L K0 R0 85 [(0, 1, .aload_n 0, []), (1, 3, .getfield 9, [6, 0, 330]), (4, 3, .ifCond .eq 5, [1]), (7, 1, .iconst 1, []), (8, 1, .ireturn, [])] 0 [vR (c0 + 2), vI x1, vI x2] [] M Q
  simp only [w_al_0, w_gf_6_0, kin_T (ksh h0), w_if_eq, w_iconst, w_ret1 rk_85, true_and, and_true, true_or, or_true]
  exact h
theorem b_85_1 {sx : Int → Int} {L : Nat} {c0 : Nat} {x1 : Int} {x2 : Int} {M : Mem} {Q : Option AV → Mem → Prop} (h0 : isSh c0)
    (h : (x1 = M c0 1 → Rn sx L K0 R0 85 2 [vR (c0 + 2), vI x1, vI x2] [] M Q) ∧ (¬ (x1 = M c0 1) → Q (some (vI 3)) M)) : Rn sx L K0 R0 85 1 [vR (c0 + 2), vI x1, vI x2] [] M Q := by
  refine Rn_w (by decide) ?_
  show wpc sx L K0 R0 85 [(9, 1, .iload_n 1, []), (10, 1, .aload_n 0, []), (11, 3, .getfield 19, [6, 1, 332]), (14, 3, .if_icmp .eq 5, [2]), (17, 1, .iconst 3, []), (18, 1, .ireturn, [])] 0 [vR (c0 + 2), vI x1, vI x2] [] M Q
  simp only [w_il_1, w_al_0, w_gf_6_1, kin_T (ksh h0), w_ic_eq, w_iconst, w_ret1 rk_85, true_and, and_true, true_or, or_true]
  exact h
theorem b_85_2 {sx : Int → Int} {L : Nat} {c0 : Nat} {x1 : Int} {x2 : Int} {M : Mem} {Q : Option AV → Mem → Prop} (h0 : isSh c0)
    (h : (x2 < (0 : Int) → Rn sx L K0 R0 85 3 [vR (c0 + 2), vI x1, vI x2] [] M Q) ∧ (¬ (x2 < (0 : Int)) → (x2 < M c0 2 → Rn sx L K0 R0 85 4 [vR (c0 + 2), vI x1, vI x2] [] M Q) ∧ (¬ (x2 < M c0 2) → Rn sx L K0 R0 85 3 [vR (c0 + 2), vI x1, vI x2] [] M Q))) : Rn sx L K0 R0 85 2 [vR (c0 + 2), vI x1, vI x2] [] M Q := by
  refine Rn_w (by decide) ?_
  show wpc sx L K0 R0 85 [(19, 1, .iload_n 2, []), (20, 3, .ifCond .lt 11, [3]), (23, 1, .iload_n 2, []), (24, 1, .aload_n 0, []), (25, 3, .getfield 23, [6, 2, 334]), (28, 3, .if_icmp .lt 7, [4])] 3 [vR (c0 + 2), vI x1, vI x2] [] M Q
  simp only [w_il_2, w_if_lt, w_al_0, w_gf_6_2, kin_T (ksh h0), w_ic_lt, w_fall, true_and, and_true, true_or, or_true]
  exact h
theorem b_85_3 {sx : Int → Int} {L : Nat} {c0 : Nat} {x1 : Int} {x2 : Int} {M : Mem} {Q : Option AV → Mem → Prop} (h0 : isSh c0)
    (h : Rn sx L K0 R0 85 5 [vR (c0 + 2), vI x1, vI x2] [vI 2] M Q) : Rn sx L K0 R0 85 3 [vR (c0 + 2), vI x1, vI x2] [] M Q := by
  refine Rn_w (by decide) ?_
  show wpc sx L K0 R0 85 [(31, 1, .iconst 2, []), (32, 3, .goto 4, [5])] 0 [vR (c0 + 2), vI x1, vI x2] [] M Q
  simp only [w_iconst, w_goto, true_and, and_true, true_or, or_true]
  exact h
theorem b_85_4 {sx : Int → Int} {L : Nat} {c0 : Nat} {x1 : Int} {x2 : Int} {M : Mem} {Q : Option AV → Mem → Prop} (h0 : isSh c0)
    (h : Rn sx L K0 R0 85 5 [vR (c0 + 2), vI x1, vI x2] [vI (-1)] M Q) : Rn sx L K0 R0 85 4 [vR (c0 + 2), vI x1, vI x2] [] M Q := by
  refine Rn_w (by decide) ?_
  show wpc sx L K0 R0 85 [(35, 1, .iconst (-1), [])] 5 [vR (c0 + 2), vI x1, vI x2] [] M Q
  simp only [w_iconst, w_fall, true_and, and_true, true_or, or_true]
  exact h
theorem b_85_5 {sx : Int → Int} {L : Nat} {c0 : Nat} {x1 : Int} {x2 : Int} {y0 : Int} {M : Mem} {Q : Option AV → Mem → Prop} (h0 : isSh c0)
    (h : Q (some (vI y0)) M) : Rn sx L K0 R0 85 5 [vR (c0 + 2), vI x1, vI x2] [vI y0] M Q := by
  refine Rn_w (by decide) ?_
  show wpc sx L K0 R0 85 [(36, 1, .ireturn, [])] 0 [vR (c0 + 2), vI x1, vI x2] [vI y0] M Q
  simp only [w_ret1 rk_85, true_and, and_true, true_or, or_true]
  exact h
