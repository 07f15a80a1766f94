/-! drop, broken, fault, about -/
section
variable {sx : Int → Int} {L : Nat} {M M' : Mem} {Q : Option AV → Mem → Prop} {SR : (Mem → Prop) × (Mem → Prop)}
/-- the reference's run is let go -/
theorem run26 (hs : SROK SR) (h : INVM SR M) (f : ∀ c k, ¬ (c = 104 ∧ k = 26) → M' c k = M c k) (e : M' 104 26 = 0) : INVM SR M' := by
  obtain ⟨⟨h1, h2, h3, h4, h5, h6, h7⟩, h8⟩ := h
  have b : BFr M M' := fun c k q => f c k (by unfold baseC at q; omega)
  refine ⟨⟨h1.fr b, ?_, by rw [f 104 32 (by omega)]; exact h3, h4.fr b fun c k q => f c k (by omega), hs.1 M M' h5 b fun c k q => f c k (by omega), hs.2.2 M M' h6 fun c k q => f c k (by omega), FND.fr h7 (f _ _ (by omega)) (f _ _ (by omega))⟩, Or.inl e⟩
  unfold RDI
  rw [f 104 10 (by omega)]
  exact h2.imp id fun w => ⟨w.1, w.2.fr b fun c k q => f c k (by omega)⟩
theorem cls_are2 {M2 : Mem} (e : ∀ t, 0 ≤ t → t < 8 → M (plA t) 3 = ftF (txR M2 t) (M2 109 t) (M2 104 0)) (e8 : M 0 8 = M2 104 9) : clsB M = areB M2 := by
  unfold clsB areB
  refine mkB_cg fun t a b => ?_
  rw [e t a (by omega), e8]
theorem s_157 {a b : Int} (dB : inB (M 104 9)) (a0 : 0 ≤ a) (a1 : a < 8) (hb : b = 0 ∨ b = 1) (hQ : ∀ D r, inB D → (∀ i, 0 ≤ i → ¬ i = a → tb D i = tb (M 104 9) i) → tb D a = decide (b = 1) → (tb (M 104 9) a = decide (b = 1) ∧ r = 0 ∨ ¬ tb (M 104 9) a = decide (b = 1) ∧ r = 1) → Q (some (vI r)) (mset (mset M 104 9 D) 104 26 0)) : Mq sx L K0 R0 157 [vR 106, vI a, vI b] M Q := by
  have pB := pow_B (i := a) (by omega)
  have st7 : ∀ x3 D, inB D → (∀ i, 0 ≤ i → ¬ i = a → tb D i = tb (M 104 9) i) → tb D a = decide (b = 1) → (x3 = 1 ∧ tb (M 104 9) a = decide (b = 1) ∨ x3 = 0 ∧ ¬ tb (M 104 9) a = decide (b = 1)) → Rn sx L K0 R0 157 7 [vR 106, vI a, vI b, vI x3] [vI D, vR 106] M Q := fun x3 D k1 k2 k3 k4 =>
    b_157_7 ⟨fun q => b_157_8 (b_157_9 (hQ D 1 k1 k2 k3 (Or.inr ⟨by rcases k4 with w | w; omega; exact w.2, rfl⟩))), fun q => b_157_9 (hQ D 0 k1 k2 k3 (Or.inl ⟨by rcases k4 with w | w; exact w.2; omega, rfl⟩))⟩
  have st5 : ∀ x3, (x3 = 1 ∧ tb (M 104 9) a = decide (b = 1) ∨ x3 = 0 ∧ ¬ tb (M 104 9) a = decide (b = 1)) → Rn sx L K0 R0 157 5 [vR 106, vI a, vI b, vU] [vI x3] M Q := by
    intro x3 k4
    refine b_157_5 ⟨fun q => b_157_6 ⟨pow30 a0 (by omega), st7 x3 _ (andn_B dB pB) (fun i i0 ia => ?_) ?_ k4⟩, fun q => ⟨pow30 a0 (by omega), st7 x3 _ (or_B dB pB) (fun i i0 ia => ?_) ?_ k4⟩⟩
    · rw [tb_andn dB pB, tb_pow a0 i0, decide_eq_false (by omega)]; simp
    · rw [tb_andn dB pB, tb_pow a0 a0, q]; simp
    · rw [tb_or dB pB, tb_pow a0 i0, decide_eq_false (by omega)]; simp
    · rw [tb_or dB pB, tb_pow a0 a0, decide_eq_true (show b = 1 by omega)]; simp
  have st3 : ∀ y, (y = 1 ∧ tb (M 104 9) a = true ∨ y = 0 ∧ tb (M 104 9) a = false) → Rn sx L K0 R0 157 3 [vR 106, vI a, vI b, vU] [vI y] M Q := by
    intro y hy
    refine b_157_3 ⟨fun q => b_157_4 (st5 0 (Or.inr ⟨rfl, ?_⟩)), fun q => st5 1 (Or.inl ⟨rfl, ?_⟩)⟩
    · rcases hy with ⟨rfl, e⟩ | ⟨rfl, e⟩
      · rw [e, decide_eq_false (by omega)]; simp
      · rw [e, decide_eq_true (by omega)]; simp
    · have q' := Decidable.not_not.mp q
      rcases hy with ⟨rfl, e⟩ | ⟨rfl, e⟩
      · rw [e, decide_eq_true (by omega)]
      · rw [e, decide_eq_false (by omega)]
  refine m_157 (b_157_0 (s_142 fun r hr => ⟨r, rfl, fun _ => b_157_1 ⟨⟨dB.1, a0, by omega⟩, fun q => b_157_2 (st3 0 (Or.inr ⟨rfl, ?_⟩)), fun q => st3 1 (Or.inl ⟨rfl, ?_⟩)⟩, fun q => absurd (by omega) q⟩))
  · rw [bt_1 dB] at q
    simpa using q
  · rw [bt_1 dB] at q
    exact Decidable.not_not.mp q
theorem op_8 (hs : SROK SR) (a b : Int) (hb01 : b = 0 ∨ b = 1) : OpOk sx L (INVM SR) 101 157 [vI a, vI b] := by
  intro M h
  have hb := h.1.1
  have dB := hb.dB
  have d8 : M 0 8 = M 104 9 := hb.2.2.2.1.2.2
  by_cases g : 0 ≤ a ∧ a < 8
  · have pB := pow_B (i := a) (by omega)
    have st3 : ∀ y, (y = 1 ∧ tb (M 0 8) a = true ∨ y = 0 ∧ tb (M 0 8) a = false) → Rn sx L K0 R0 101 3 [vR 2, vI a, vI b] [vI y] M (fun rv M1 => ∃ r, rv = some (vI r) ∧ Mq sx L K0 R0 157 [vR 106, vI a, vI b] M1 (fun rv2 M2 => rv2 = some (vI r) ∧ INVM SR M2)) := by
      intro y hy
      refine b_101_3 ⟨fun q => b_101_4 ⟨pow30 g.1 (by omega), ?_⟩, fun q => ⟨_, rfl, ?_⟩⟩
      · have nb : ¬ tb (M 0 8) a = decide (b = 1) := by
          rcases hy with ⟨rfl, e⟩ | ⟨rfl, e⟩
          · rw [e, decide_eq_false (by omega)]; simp
          · rw [e, decide_eq_true (by omega)]; simp
        have xB := xor_B dB pB
        refine s_134 (by rw [ms_eq]; exact xB) fun M1 h60 h7 z3 z6 z10 z13 f1 => ⟨rfl, _, rfl, ?_⟩
        have F1 : ∀ x k, ¬ (x = 6 ∧ k = 0) → ¬ (x = 0 ∧ (k = 7 ∨ k = 8)) → ¬ x = 74 → M1 x k = M x k := fun x k p q r => by rw [f1 x k p (by omega) r, ms_ne (by omega)]
        have e9 : M1 104 9 = M 104 9 := F1 _ _ (by omega) (by omega) (by omega)
        refine s_157 (by rw [e9, ← d8]; exact dB) g.1 g.2 hb01 fun D r k1 k2 k3 k4 => ?_
        rw [e9, ← d8] at k2 k4
        have r1 : r = 1 := by rcases k4 with w | w; exact absurd w.1 nb; exact w.2
        have eD : iXor (M 0 8) (1 * 2 ^ a.toNat) = D := by
          refine tb_ext xB.1 k1.1 fun i i0 => ?_
          rw [tb_xor dB pB, tb_pow g.1 i0]
          by_cases e : i = a
          · rw [e, k3, decide_eq_true rfl]
            revert nb
            cases tb (M 0 8) a <;> cases decide (b = 1) <;> simp
          · rw [k2 i i0 e, decide_eq_false (by omega)]; simp
        refine ⟨by rw [r1], ?_⟩
        have F : ∀ x k, ¬ (x = 6 ∧ k = 0) → ¬ (x = 0 ∧ (k = 7 ∨ k = 8)) → ¬ x = 74 → ¬ (x = 104 ∧ (k = 9 ∨ k = 26)) → mset (mset M1 104 9 D) 104 26 0 x k = M x k := fun x k p q r s => by rw [ms_ne (by omega), ms_ne (by omega), F1 x k p q r]
        have n9 : mset (mset M1 104 9 D) 104 26 0 104 9 = D := by rw [ms_k (by omega), ms_eq]
        have F2 : ∀ x k, ¬ x = 104 → mset (mset M1 104 9 D) 104 26 0 x k = M1 x k := fun x k p => by rw [ms_c p, ms_c p]
        have n8 : mset (mset M1 104 9 D) 104 26 0 0 8 = D := by rw [F2 _ _ (by omega), f1 _ _ (by omega) (by omega) (by omega), ms_eq, eD]
        obtain ⟨b1, b2, b3, b4, b5, b6⟩ := hb
        refine mut_ok hs h (fun c k p q r s => F c k (by unfold baseC at p; omega) (by unfold baseC at p; omega) r (by unfold baseC at p; omega)) ⟨b1.fr fun c k q => F c k (by omega) (by omega) (by omega) (by omega), fun t t0 t1 => ((b2 t t0 t1).fr fun c k q => ?_).1, fun t t0 t1 => (b3 t t0 t1).fr fun c q => F c t (by omega) (by omega) (by omega) (by omega), ⟨?_, ?_, ?_⟩, b5.fr fun c k q => F c k (by omega) (by omega) (by omega) (by omega), ?_⟩ ?_ ?_ ?_ ?_ ?_ ms_eq (Or.inr fun c k q => F c k (by omega) (by omega) (by omega) (by omega))
        · have := pl_rg t0 t1
          exact F c k (by omega) (by omega) (by omega) (by omega)
        · rw [n9]; exact k1.1
        · rw [n9]
          have := lt_tb (b := D) (n := 8) fun i hi => by
            rw [k2 i (by omega) (by omega)]
            exact tb_lt (n := 8) dB.1 (by have := b4.2.1; rw [d8]; exact this) hi
          exact this
        · rw [n9, n8]
        · rw [F2 _ _ (by omega), h60]
          refine cls_are2 (fun t t0 t1 => ?_) (by rw [ms_eq, n9, eD])
          have p := pl_rg t0 t1
          have tx := ((b2 t t0 t1).fr (M' := mset (mset M1 104 9 D) 104 26 0) fun c k q => F c k (by omega) (by omega) (by omega) (by omega)).2
          rw [tx, F 109 t (by omega) (by omega) (by omega) (by omega), F 104 0 (by omega) (by omega) (by omega) (by omega), ms_c (by omega)]
          exact (b2 t t0 t1).2.2.2.2.1
        · rw [F2 _ _ (by omega)]; exact h7
        · rw [F2 _ _ (by omega)]; exact z3
        · rw [F2 _ _ (by omega)]; exact z6
        · rw [F2 _ _ (by omega)]; exact z10
        · rw [F2 _ _ (by omega)]; exact z13
      · have nb : tb (M 0 8) a = decide (b = 1) := by
          have q' := Decidable.not_not.mp q
          rcases hy with ⟨rfl, e⟩ | ⟨rfl, e⟩
          · rw [e, decide_eq_true (by omega)]
          · rw [e, decide_eq_false (by omega)]
        refine s_157 (by rw [← d8]; exact dB) g.1 g.2 hb01 fun D r k1 k2 k3 k4 => ?_
        rw [← d8] at k2 k4
        have r1 : r = 0 := by rcases k4 with w | w; exact w.2; exact absurd nb w.1
        have eD : D = M 104 9 := by
          rw [← d8]
          refine tb_ext k1.1 dB.1 fun i i0 => ?_
          by_cases e : i = a
          · rw [e, k3, nb]
          · exact k2 i i0 e
        refine ⟨by rw [r1], run26 hs h (fun c k q => ?_) ms_eq⟩
        rw [ms_ne q]
        by_cases e : c = 104 ∧ k = 9
        · rw [e.1, e.2, ms_eq, eD]
        · rw [ms_ne e]
    refine m_101 (b_101_0 (s_125 fun r hr => ⟨r, rfl, fun _ => b_101_1 ⟨⟨dB.1, g.1, by omega⟩, fun q => b_101_2 (st3 0 (Or.inr ⟨rfl, ?_⟩)), fun q => st3 1 (Or.inl ⟨rfl, ?_⟩)⟩, fun q => absurd (by omega) q⟩))
    · rw [bt_ne dB] at q; exact q
    · rw [bt_ne dB] at q; simpa using q
  · refine ref_ok h (fun Q hQ => m_101 (b_101_0 (s_125 fun r hr => ⟨r, rfl, fun q => absurd (by omega) g, fun _ => hQ⟩))) (fun Q hQ => m_157 (b_157_0 (s_142 fun r hr => ⟨r, rfl, fun q => absurd (by omega) g, fun _ => hQ⟩)))
theorem s_128r {x : Int} (hQ : ∀ r, (0 ≤ x ∧ x < 120 ∧ r = 1 ∨ ¬ (0 ≤ x ∧ x < 120) ∧ r = 0) → Q (some (vI r)) M) : Mq sx L K0 R0 128 [vI x] M Q :=
  m_128 (b_128_0 ⟨fun q => b_128_1 (b_128_2 ⟨Or.inl rfl, hQ 0 (by omega)⟩), fun q => ⟨fun q2 => b_128_1 (b_128_2 ⟨Or.inl rfl, hQ 0 (by omega)⟩), fun q2 => b_128_2 ⟨Or.inr rfl, hQ 1 (by omega)⟩⟩⟩)
theorem op_2 (hs : SROK SR) (a b c : Int) (ha : inR a) : OpOk sx L (INVM SR) 95 140 [vI a, vI b, vI c] := by
  intro M h
  have hb := h.1.1
  obtain ⟨a1, a2, a3, a4, a5⟩ := hb.1
  by_cases g : (0 ≤ a ∧ a < M 104 0) ∧ (0 ≤ b ∧ b < 120) ∧ 0 ≤ c ∧ c < 120
  · have e8 : mset (mset M 3 a b) 4 a c 0 8 = M 0 8 := by rw [ms_c (by omega), ms_c (by omega)]
    refine m_95 (b_95_0 ⟨fun q => absurd q (by omega), fun _ => ⟨fun q => absurd q (by omega), fun _ => s_128r fun r hr => ⟨r, rfl, fun q => absurd q (by omega), fun _ => s_128r fun r2 hr2 => ⟨r2, rfl, fun _ => b_95_2 (m_91 (b_91_0 ⟨fun q => absurd q (by omega), fun _ => ⟨fun q => absurd q (by omega), fun _ => ⟨⟨by omega, by omega⟩, ⟨by omega, by omega⟩, b_91_1 ⟨rfl, s_134 (by rw [e8]; exact hb.dB) fun M1 h60 h7 z3 z6 z10 z13 f1 => ⟨rfl, _, rfl, ?_⟩⟩⟩⟩⟩)), fun q => absurd (by omega) q⟩⟩⟩⟩)
    have F1 : ∀ x k, ¬ (x = 6 ∧ k = 0) → ¬ (x = 0 ∧ k = 7) → ¬ x = 74 → ¬ (3 ≤ x ∧ x ≤ 4 ∧ k = a) → M1 x k = M x k := fun x k p q r s => by rw [f1 x k p q r, ms_ne (by omega), ms_ne (by omega)]
    rw [cls_are hb (fun t t0 t1 => by have := pl_rg t0 t1; rw [ms_c (by omega), ms_c (by omega)]) e8] at h60
    have e0 : M1 104 0 = M 104 0 := F1 _ _ (by omega) (by omega) (by omega) (by omega)
    refine m_140 (b_140_0 ⟨⟨by omega, by omega⟩, s_137 fun r hr => ⟨r, rfl, fun q => absurd q (by omega), fun _ => s_137 fun r2 hr2 => ⟨r2, rfl, fun q => absurd q (by omega), fun _ => s_137 fun r3 hr3 => ⟨r3, rfl, fun _ => b_140_2 ⟨⟨by omega, by omega⟩, ⟨by omega, by omega⟩, rfl, ?_⟩, fun q => absurd (by omega) q⟩⟩⟩⟩)
    have F2 : ∀ x k, ¬ (107 ≤ x ∧ x ≤ 108 ∧ k = a) → ¬ (x = 104 ∧ k = 26) → mset (mset (mset M1 107 a b) 108 a c) 104 26 0 x k = M1 x k := fun x k p q => by rw [ms_ne (by omega), ms_ne (by omega), ms_ne (by omega)]
    have F : ∀ x k, ¬ (x = 6 ∧ k = 0) → ¬ (x = 0 ∧ k = 7) → ¬ x = 74 → ¬ ((3 ≤ x ∧ x ≤ 4 ∨ 107 ≤ x ∧ x ≤ 108) ∧ k = a) → ¬ (x = 104 ∧ k = 26) → mset (mset (mset M1 107 a b) 108 a c) 104 26 0 x k = M x k := fun x k p q r s t => by rw [F2 x k (by omega) (by omega), F1 x k p q r (by omega)]
    have n107 : mset (mset (mset M1 107 a b) 108 a c) 104 26 0 107 a = b := by rw [ms_c (by omega), ms_c (by omega), ms_eq]
    have n108 : mset (mset (mset M1 107 a b) 108 a c) 104 26 0 108 a = c := by rw [ms_c (by omega), ms_eq]
    have n3 : mset (mset (mset M1 107 a b) 108 a c) 104 26 0 3 a = b := by rw [F2 _ _ (by omega) (by omega), f1 _ _ (by omega) (by omega) (by omega), ms_c (by omega), ms_eq]
    have n4 : mset (mset (mset M1 107 a b) 108 a c) 104 26 0 4 a = c := by rw [F2 _ _ (by omega) (by omega), f1 _ _ (by omega) (by omega) (by omega), ms_eq]
    have n26 : mset (mset (mset M1 107 a b) 108 a c) 104 26 0 104 26 = 0 := ms_eq
    generalize mset (mset (mset M1 107 a b) 108 a c) 104 26 0 = M2 at F2 F n107 n108 n3 n4 n26 ⊢
    obtain ⟨_, b2, b3, b4, b5, b6⟩ := hb
    have m0 : M2 104 0 = M 104 0 := F _ _ (by omega) (by omega) (by omega) (by omega) (by omega)
    refine mut_ok hs h (fun c' k p q r s => F c' k (by unfold baseC at p; omega) q r (by unfold baseC at p; omega) (by omega)) ⟨⟨by rw [m0]; exact a1, by rw [m0]; exact a2, ?_, fun h' p q => ?_, ?_⟩, fun t t0 t1 => ((b2 t t0 t1).fr fun c' k q => ?_).1, fun t t0 t1 => (b3 t t0 t1).fr fun c' q => F c' t (by omega) (by omega) (by omega) (by omega) (by omega), ?_, b5.fr fun c' k q => F c' k (by omega) (by omega) (by omega) (by omega) (by omega), ?_⟩ ?_ ?_ ?_ ?_ ?_ n26 (Or.inr fun c' k q => F c' k (by omega) (by omega) (by omega) (by omega) (by omega))
    · rw [m0, F _ _ (by omega) (by omega) (by omega) (by omega) (by omega)]; exact a3
    · rw [m0] at q
      rw [F 2 h' (by omega) (by omega) (by omega) (by omega) (by omega), F 106 h' (by omega) (by omega) (by omega) (by omega) (by omega)]
      by_cases e : h' = a
      · subst e
        rw [n3, n4, n107, n108]
        exact ⟨(a4 h' p q).1, rfl, rfl⟩
      · rw [F 3 h' (by omega) (by omega) (by omega) (by omega) (by omega), F 4 h' (by omega) (by omega) (by omega) (by omega) (by omega), F 107 h' (by omega) (by omega) (by omega) (by omega) (by omega), F 108 h' (by omega) (by omega) (by omega) (by omega) (by omega)]
        exact a4 h' p q
    · rw [F 1 1 (by omega) (by omega) (by omega) (by omega) (by omega), fir_cg m0 fun h' _ _ => F 105 h' (by omega) (by omega) (by omega) (by omega) (by omega)]
      exact a5
    · have := pl_rg t0 t1
      exact F c' k (by omega) (by omega) (by omega) (by omega) (by omega)
    · rw [F 104 9 (by omega) (by omega) (by omega) (by omega) (by omega), F 0 8 (by omega) (by omega) (by omega) (by omega) (by omega)]
      exact b4
    · rw [F2 _ _ (by omega) (by omega), h60, are_fr (M := M) (M' := M2) fun c' k q => F c' k (by omega) (by omega) (by omega) (by omega) (by omega)]
    · rw [F2 _ _ (by omega) (by omega)]; exact h7
    · rw [F2 _ _ (by omega) (by omega)]; exact z3
    · rw [F2 _ _ (by omega) (by omega)]; exact z6
    · rw [F2 _ _ (by omega) (by omega)]; exact z10
    · rw [F2 _ _ (by omega) (by omega)]; exact z13
  · refine ref_ok h (fun Q hQ => m_95 (b_95_0 ⟨fun q => b_95_1 hQ, fun _ => ⟨fun q => b_95_1 hQ, fun _ => s_128r fun r hr => ⟨r, rfl, fun q => b_95_1 hQ, fun _ => s_128r fun r2 hr2 => ⟨r2, rfl, fun _ => absurd (by omega) g, fun _ => b_95_1 hQ⟩⟩⟩⟩)) (fun Q hQ => m_140 (b_140_0 ⟨⟨by omega, by omega⟩, s_137 fun r hr => ⟨r, rfl, fun q => b_140_1 hQ, fun _ => s_137 fun r2 hr2 => ⟨r2, rfl, fun q => b_140_1 hQ, fun _ => s_137 fun r3 hr3 => ⟨r3, rfl, fun _ => absurd (by omega) g, fun _ => b_140_1 hQ⟩⟩⟩⟩))
theorem op_5 (hs : SROK SR) (a : Int) : OpOk sx L (INVM SR) 98 153 [vI a] := by
  intro M h
  by_cases g : 0 ≤ a ∧ a < 8
  · refine m_98 (b_98_0 g (s_125 fun r hr => ⟨r, rfl, fun q => absurd q (by omega), fun _ => b_98_2 ⟨_, rfl, ?_⟩⟩))
    refine m_153 (b_153_0 (s_142 fun r hr => ⟨r, rfl, fun q => absurd q (by omega), fun _ => m_152 (b_152_0 (s_150i hs h fun M1 h1 e1 r1 f1 => ⟨rfl, g, _, rfl, b_153_2 ⟨?_, h1⟩⟩))⟩))
    rw [(r1 a g.1 g.2).1, f1.bf.tx, f1.bf.a (c := 109) (by omega), f1.bf.m (k := 0) (by omega), (h.1.1.2.1 a g.1 g.2).2.2.2.2.1]
  · exact ref_ok h (fun Q hQ => m_98 (bx_98_0 g hQ)) (fun Q hQ => m_153 (b_153_0 (s_142 fun r hr => ⟨r, rfl, fun q => b_153_1 (b_153_2 hQ), fun q => absurd (by omega) g⟩)))
theorem op_6 (hs : SROK SR) (a b : Int) : OpOk sx L (INVM SR) 99 155 [vI a, vI b] := by
  intro M h
  have hb := h.1.1
  by_cases g : (0 ≤ a ∧ a < 8) ∧ 0 ≤ b ∧ b ≤ 8
  · obtain ⟨n0, n1, tc, p1, p2, p3, p4, p5, s1, s2, s3, s4, s5⟩ := hb.2.1 a g.1.1 g.1.2
    obtain ⟨k1, k2, k3, k4, k5, k6, k7⟩ := hb.2.2.1 a g.1.1 g.1.2
    have k17 := stN_le (hb.2.1 a g.1.1 g.1.2)
    have hp : isPl (plA a) := isPl_A g.1.1 g.1.2
    have aB : inB (M 6 0) := by rw [hb.2.2.2.2.2]; exact areB_B
    -- the reference's way in
    have way : ∀ (r : Int) , (∀ Q : Option AV → Mem → Prop, (∀ M1, INVM SR M1 → Q (some (vI r)) M1) → Rn sx L K0 R0 155 2 [vR 106, vI a, vI b] [] M Q) → Mq sx L K0 R0 155 [vR 106, vI a, vI b] M (fun rv2 M2 => rv2 = some (vI r) ∧ INVM SR M2) := fun r k => m_155 (b_155_0 (s_142 fun r1 hr => ⟨r1, rfl, fun q => absurd q (by omega), fun _ => s_137 fun r2 hr2 => ⟨r2, rfl, fun _ => k _ fun M1 h1 => ⟨rfl, h1⟩, fun q => absurd (by omega) q⟩⟩))
    have cls : Rn sx L K0 R0 99 2 [vR 2, vI a, vI b, vU] [] M (fun rv M1 => ∃ r, rv = some (vI r) ∧ Mq sx L K0 R0 155 [vR 106, vI a, vI b] M1 (fun rv2 M2 => rv2 = some (vI r) ∧ INVM SR M2)) := by
      by_cases b5 : b ≤ 5
      · by_cases ft : M (plA a) 3 = -1
        · -- read
          have rd : ∀ (v : Int), (∀ M1, RdT (txR M a) (M 109 a) (M 104 0) M1 a → INVM SR M1 → ∀ Q : Option AV → Mem → Prop, Q (some (vI v)) M1 → Rn sx L K0 R0 155 7 [vR 106, vI a, vI b] [] M1 Q) → Mq sx L K0 R0 155 [vR 106, vI a, vI b] M (fun rv2 M2 => rv2 = some (vI v) ∧ INVM SR M2) := fun v k => way v fun Q hQ => b_155_2 ⟨fun _ => b_155_6 (m_152 (b_152_0 (s_150i hs h fun M1 h1 e1 r1 f1 => ⟨rfl, g.1, _, rfl, fun _ => k M1 ?_ h1 _ (hQ M1 h1), fun q => absurd ?_ q⟩))), fun q => absurd b5 q⟩
          rotate_left
          · have := r1 a g.1.1 g.1.2
            rw [f1.bf.tx, f1.bf.a (c := 109) (by omega), f1.bf.m (k := 0) (by omega)] at this
            exact this
          · rw [(r1 a g.1.1 g.1.2).1, f1.bf.tx, f1.bf.a (c := 109) (by omega), f1.bf.m (k := 0) (by omega), ← p2]; exact ft
          rw [p2] at ft
          refine b_99_2 g.1 ⟨fun q => absurd q (by omega), fun _ => ⟨fun _ => b_99_3 hp ⟨fun q => absurd q (by omega), fun q => b_99_4 hp ⟨_, rfl, rd _ fun M1 t h1 Q hQ => ?_⟩, fun q => b_99_5 hp ⟨_, rfl, rd _ fun M1 t h1 Q hQ => ?_⟩, fun q => b_99_6 hp ⟨_, rfl, rd _ fun M1 t h1 Q hQ => ?_⟩, fun q => b_99_7 hp ⟨_, rfl, rd _ fun M1 t h1 Q hQ => ?_⟩, fun q => b_99_8 hp ⟨_, rfl, rd _ fun M1 t h1 Q hQ => ?_⟩, fun q => b_99_9 hp ⟨_, rfl, rd _ fun M1 t h1 Q hQ => ?_⟩, fun q => absurd q (by omega), fun q => absurd q (by omega)⟩, fun q => absurd (by rw [p2]; exact ft) q⟩⟩
          · refine b_155_7 ⟨fun q => absurd q (by omega), fun _ => b_155_8 ⟨g.1, ?_⟩, fun q => absurd q (by omega), fun q => absurd q (by omega), fun q => absurd q (by omega), fun q => absurd q (by omega)⟩
            rw [t.2.1, ← p3]; exact hQ
          · refine b_155_7 ⟨fun q => absurd q (by omega), fun q => absurd q (by omega), fun _ => b_155_9 ⟨g.1, ?_⟩, fun q => absurd q (by omega), fun q => absurd q (by omega), fun q => absurd q (by omega)⟩
            rw [t.2.2.1, ← p4]; exact hQ
          · refine b_155_7 ⟨fun q => absurd q (by omega), fun q => absurd q (by omega), fun q => absurd q (by omega), fun _ => b_155_10 ⟨g.1, ?_⟩, fun q => absurd q (by omega), fun q => absurd q (by omega)⟩
            rw [t.2.2.2.1, ← p5]; exact hQ
          · refine b_155_7 ⟨fun q => absurd q (by omega), fun q => absurd q (by omega), fun q => absurd q (by omega), fun q => absurd q (by omega), fun _ => b_155_11 ?_, fun q => absurd q (by omega)⟩
            have hd4ok : (hd4 (txR M a) (M 109 a)).1 = -1 := by
              apply Classical.byContradiction
              intro q
              unfold ftF at ft
              rw [if_pos q] at ft
              exact q ft
            have hd := hd_ok n0 hd4ok
            have hall : ∀ j : Nat, j < stN (txR M a) (M 109 a) (M 104 0) → scF (txR M a) (M 109 a) (M 104 0) (a0F (txR M a) (M 109 a)) j = -1 := fun j hj => (st_ok hj).2
            refine s_151 g.1.1 g.1.2 (by omega) t.2.2.2.2.1 (fun j j0 j1 => ?_) ⟨_, rfl, ?_⟩
            · have st := t.2.2.2.2.2.2 j.toNat (by omega)
              have so := sc_ok (by omega) (hall j.toNat (by omega))
              rw [Int.toNat_of_nonneg j0] at st so
              rw [st.2]; omega
            · have ew : (sumI (stN (txR M a) (M 109 a) (M 104 0)) fun j => if M1 118 (20 * a + j) = 0 then M1 119 (20 * a + j) else 0) = M (plA a) 10 := by
                rw [s2]
                unfold wkS
                refine sumI_congr fun j j0 j1 => ?_
                have st := t.2.2.2.2.2.2 j.toNat (by omega)
                rw [Int.toNat_of_nonneg j0] at st
                rw [st.1, st.2]
              rw [ew]; exact hQ
          · refine b_155_7 ⟨fun q => absurd q (by omega), fun q => absurd q (by omega), fun q => absurd q (by omega), fun q => absurd q (by omega), fun q => absurd q (by omega), fun _ => b_155_12 ⟨g.1, ?_⟩⟩
            rw [t.2.2.2.2.1, ← s1]; exact hQ
          · refine b_155_7 ⟨fun _ => b_155_13 ⟨g.1, ?_⟩, fun q => absurd q (by omega), fun q => absurd q (by omega), fun q => absurd q (by omega), fun q => absurd q (by omega), fun q => absurd q (by omega)⟩
            rw [t.2.2.2.2.2.1 ft, ← s4]; exact hQ
        · refine b_99_2 g.1 ⟨fun q => absurd q (by omega), fun _ => ⟨fun q => absurd q ft, fun _ => ⟨_, rfl, way _ fun Q hQ => b_155_2 ⟨fun _ => b_155_6 (m_152 (b_152_0 (s_150i hs h fun M1 h1 e1 r1 f1 => ⟨rfl, g.1, _, rfl, fun q => absurd ?_ ft, fun _ => hQ M1 h1⟩))), fun q => absurd b5 q⟩⟩⟩⟩
          rw [(r1 a g.1.1 g.1.2).1, f1.bf.tx, f1.bf.a (c := 109) (by omega), f1.bf.m (k := 0) (by omega), ← p2] at q; exact q
      · refine b_99_2 g.1 ⟨fun _ => b_99_3 hp ⟨fun q => b_99_12 hp (m_78 (b_78_0 (c0 := 6) (Or.inl rfl) ⟨⟨aB.1, g.1.1, by omega⟩, fun w => b_78_1 (Or.inl rfl) (b_78_2 (Or.inl rfl) ⟨Or.inl rfl, _, rfl, fun _ => b_99_13 hp (b_99_14 hp ⟨_, rfl, way _ fun Q hQ => ?_⟩), fun w => absurd rfl w⟩), fun w => b_78_2 (Or.inl rfl) ⟨Or.inr rfl, _, rfl, fun w => absurd w (by omega), fun _ => b_99_14 hp ⟨_, rfl, way _ fun Q hQ => ?_⟩⟩⟩)), fun q => absurd q (by omega), fun q => absurd q (by omega), fun q => absurd q (by omega), fun q => absurd q (by omega), fun q => absurd q (by omega), fun q => absurd q (by omega), fun q => b_99_10 hp ⟨g.1, _, rfl, way _ fun Q hQ => ?_⟩, fun q => b_99_11 hp ⟨g.1, _, rfl, way _ fun Q hQ => ?_⟩⟩, fun q => absurd (by omega) q⟩
        · refine b_155_2 ⟨fun q => absurd q b5, fun _ => ⟨fun _ => b_155_3 ⟨fun _ => b_155_4 (s_154 (I := INVM SR) (fun M h => h.1.1) (fun Q hQ => s_150i hs h hQ) fun M1 h1 _ _ _ => ⟨_, rfl, ⟨areB_B.1, g.1.1, by omega⟩, ?_⟩), fun w => absurd (by omega) w⟩, fun w => absurd (by omega) w⟩⟩
          rw [hb.2.2.2.2.2] at w
          rw [w]; exact b_155_5 (hQ M1 h1)
        · refine b_155_2 ⟨fun q => absurd q b5, fun _ => ⟨fun _ => b_155_3 ⟨fun _ => b_155_4 (s_154 (I := INVM SR) (fun M h => h.1.1) (fun Q hQ => s_150i hs h hQ) fun M1 h1 _ _ _ => ⟨_, rfl, ⟨areB_B.1, g.1.1, by omega⟩, ?_⟩), fun w => absurd (by omega) w⟩, fun w => absurd (by omega) w⟩⟩
          rw [hb.2.2.2.2.2, bt_ne areB_B] at w
          rw [bt_eq areB_B, if_pos (by simpa using w)]; exact b_155_5 (hQ M1 h1)
        · refine b_155_2 ⟨fun q => absurd q b5, fun _ => ⟨fun w => absurd q w, fun _ => ⟨g.1, b_155_5 ?_⟩⟩⟩
          rw [← k3]; exact hQ M h
        · refine b_155_2 ⟨fun q => absurd q b5, fun _ => ⟨fun _ => b_155_3 ⟨fun w => absurd q w, fun _ => ⟨g.1, b_155_5 ?_⟩⟩, fun w => absurd (by omega) w⟩⟩
          rw [← k6]; exact hQ M h
    exact m_99 (b_99_0 (s_125 fun r hr => ⟨r, rfl, fun q => absurd q (by omega), fun _ => ⟨fun q => absurd q (by omega), fun _ => ⟨fun _ => cls, fun q => absurd (by omega) q⟩⟩⟩))
  · refine ref_ok h (fun Q hQ => m_99 (b_99_0 (s_125 fun r hr => ⟨r, rfl, fun q => b_99_1 hQ, fun _ => ⟨fun q => b_99_1 hQ, fun _ => ⟨fun q => absurd (by omega) g, fun _ => b_99_1 hQ⟩⟩⟩))) (fun Q hQ => m_155 (b_155_0 (s_142 fun r hr => ⟨r, rfl, fun q => b_155_1 hQ, fun _ => s_137 fun r2 hr2 => ⟨r2, rfl, fun _ => absurd (by omega) g, fun _ => b_155_1 hQ⟩⟩)))
end
