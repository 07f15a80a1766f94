/-! what changes what is told -/
section
variable {sx : Int → Int} {L : Nat} {M M' : Mem} {Q : Option AV → Mem → Prop} {SR : (Mem → Prop) × (Mem → Prop)}
theorem RDok.fr2 (h : RDok M) (f : ∀ c k, (c = 109 ∨ c = 110 ∨ (c = 104 ∧ k = 0) ∨ 113 ≤ c ∧ c ≤ 120) → M' c k = M c k) : RDok M' := by
  intro t t0 t1
  have e : txR M' t = txR M t := by
    funext j
    unfold txR
    rw [f 109 t (by omega), f 110 _ (by omega)]
  unfold RdT
  rw [e, f 109 t (by omega), f 104 0 (by omega), f 113 t (by omega), f 114 t (by omega), f 115 t (by omega), f 116 t (by omega), f 117 t (by omega), f 120 t (by omega)]
  obtain ⟨h1, h2, h3, h4, h5, h6, h7⟩ := h t t0 t1
  refine ⟨h1, h2, h3, h4, h5, h6, fun j hj => ?_⟩
  rw [f 118 _ (by omega), f 119 _ (by omega)]
  exact h7 j hj
theorem BThg.fr (h : BThg M) (f : ∀ c k, (1 ≤ c ∧ c ≤ 4 ∨ 105 ≤ c ∧ c ≤ 108 ∨ (c = 104 ∧ k = 0)) → M' c k = M c k) : BThg M' := by
  obtain ⟨a1, a2, a3, a4, a5⟩ := h
  have m0 := f 104 0 (by omega)
  refine ⟨by rw [m0]; exact a1, by rw [m0]; exact a2, by rw [f 1 0 (by omega), m0]; exact a3, fun h p q => ?_, by rw [f 1 1 (by omega), fir_cg m0 fun h _ _ => f 105 h (by omega)]; exact a5⟩
  rw [m0] at q
  rw [f 2 h (by omega), f 3 h (by omega), f 4 h (by omega), f 106 h (by omega), f 107 h (by omega), f 108 h (by omega)]
  exact a4 h p q
theorem BTxt.fr {t : Int} (h : BTxt M t) (f : ∀ c k, (plA t ≤ c ∧ c ≤ plA t + 3 ∨ (c = 109 ∧ k = t) ∨ (c = 110 ∧ 60 * t ≤ k ∧ k < 60 * t + 60) ∨ (c = 104 ∧ k = 0)) → M' c k = M c k) : BTxt M' t ∧ txR M' t = txR M t := by
  obtain ⟨b1, b2, b3, b4⟩ := h
  have e : txR M' t = txR M t := by
    funext j
    unfold txR
    rw [f 109 t (by omega)]
    by_cases w : 0 ≤ j ∧ j < M 109 t
    · rw [if_pos w, if_pos w, f 110 _ (by omega)]
    · rw [if_neg w, if_neg w]
  refine ⟨?_, e⟩
  have p := fun k => f (plA t) k (by omega)
  unfold BTxt
  rw [e, f 109 t (by omega), f 104 0 (by omega)]
  obtain ⟨q1, q2, q3, q4, q5, q6⟩ := b4
  obtain ⟨s1, s2, s3, s4, s5⟩ := q6
  refine ⟨b1, b2, ⟨by rw [p]; exact b3.1, fun j j0 j1 => by rw [f (plA t + 1) _ (by omega)]; exact b3.2 j j0 j1⟩, by rw [p]; exact q1, by rw [p]; exact q2, by rw [p]; exact q3, by rw [p]; exact q4, by rw [p]; exact q5, by rw [p]; exact s1, by rw [p]; exact s2, by rw [p]; exact s3, by rw [p]; exact s4, fun j hj => ?_⟩
  rw [f (plA t + 2) _ (by omega), f (plA t + 3) _ (by omega)]
  exact s5 j hj
theorem BRnk.fr {t : Int} (h : BRnk M t) (f : ∀ c, (7 ≤ c ∧ c ≤ 9 ∨ c = 111 ∨ c = 112) → M' c t = M c t) : BRnk M' t := by
  unfold BRnk
  rw [f 111 (by omega), f 112 (by omega), f 7 (by omega), f 8 (by omega), f 9 (by omega)]
  exact h
theorem BRul.fr (h : BRul M) (f : ∀ c k, (c = 104 ∧ 22 ≤ k ∧ k ≤ 25 ∨ c = 6 ∧ 4 ≤ k ∧ k ≤ 8) → M' c k = M c k) : BRul M' := by
  unfold BRul
  rw [f 104 22 (by omega), f 104 23 (by omega), f 104 24 (by omega), f 104 25 (by omega), f 6 4 (by omega), f 6 5 (by omega), f 6 6 (by omega), f 6 7 (by omega), f 6 8 (by omega)]
  exact h
theorem are_fr (f : ∀ c k, (c = 109 ∨ c = 110 ∨ (c = 104 ∧ (k = 0 ∨ k = 9))) → M' c k = M c k) : areB M' = areB M := by
  unfold areB
  refine mkB_cg fun t a b => ?_
  have e : txR M' t = txR M t := by
    funext j
    unfold txR
    rw [f 109 t (by omega), f 110 _ (by omega)]
  rw [e, f 109 t (by omega), f 104 0 (by omega), f 104 9 (by omega)]
def clsB (M : Mem) : Int := mkB 8 fun t => decide (M (plA t) 3 = -1) && !tb (M 0 8) t
theorem cls_are (hb : BASE M) (f : ∀ t, 0 ≤ t → t < 8 → M' (plA t) 3 = M (plA t) 3) (f8 : M' 0 8 = M 0 8) : clsB M' = areB M := by
  unfold clsB areB
  refine mkB_cg fun t a b => ?_
  rw [f t a (by omega), f8, (hb.2.1 t a (by omega)).2.2.2.2.1, hb.2.2.2.1.2.2]
theorem s_134 (d0 : inB (M 0 8)) (hQ : ∀ M', M' 6 0 = clsB M → M' 0 7 = 0 → M' 74 3 = 0 → M' 74 6 = 0 → M' 74 10 = 0 → M' 74 13 = 0 → (∀ c k, ¬ (c = 6 ∧ k = 0) → ¬ (c = 0 ∧ k = 7) → ¬ c = 74 → M' c k = M c k) → Q none M') : Mq sx L K0 R0 134 [vR 2] M Q := by
  have fin : Rn sx L K0 R0 134 3 [vR 2, vI (clsB M), vI 8] [] M Q := by
    refine b_134_3 (m_55 (b_55_0 ⟨rfl, hQ _ ?_ ?_ ?_ ?_ ?_ ms_eq fun c k p q r => ?_⟩))
    · rw [ms_c (by omega), ms_c (by omega), ms_c (by omega), ms_c (by omega), ms_c (by omega), ms_eq]
    · rw [ms_c (by omega), ms_c (by omega), ms_c (by omega), ms_c (by omega), ms_eq]
    · rw [ms_k (by omega), ms_k (by omega), ms_k (by omega), ms_eq]
    · rw [ms_k (by omega), ms_k (by omega), ms_eq]
    · rw [ms_k (by omega), ms_eq]
    · rw [ms_c r, ms_c r, ms_c r, ms_c r, ms_ne q, ms_ne p]
  refine m_134 (b_134_0 (lpI (N := 8) (G := fun k => Rn sx L K0 R0 134 1 [vR 2, vI (mkB k.toNat fun t => decide (M (plA t) 3 = -1) && !tb (M 0 8) t), vI k] [] M Q) (fun k k0 k1 ih => ?_) (bx_134_1 (by omega) fin) 0 (by omega) (by omega)))
  rw [mkB_s k0] at ih
  generalize (mkB k.toNat fun t => decide (M (plA t) 3 = -1) && !tb (M 0 8) t) = b at ih ⊢
  have no : (decide (M (plA k) 3 = -1) && !tb (M 0 8) k) = false → Rn sx L K0 R0 134 2 [vR 2, vI b, vI k] [] M Q := by
    intro w
    rw [w, if_neg (by decide)] at ih
    exact b_134_2 ⟨⟨by omega, by omega⟩, ih⟩
  refine b_134_1 ⟨k0, k1⟩ ⟨fun q => absurd q (by omega), fun _ => ⟨fun q => no (by rw [decide_eq_false q]; rfl), fun q => ⟨⟨d0.1, by omega⟩, fun q2 => no ?_, fun q2 => ⟨⟨by omega, by omega, (pow30 k0 (by omega)).2.2.2⟩, b_134_2 ⟨⟨by omega, by omega⟩, ?_⟩⟩⟩⟩⟩
  · rw [bt_ne d0] at q2
    rw [show tb (M 0 8) k = true by simpa using q2]; simp
  · have q3 := Decidable.not_not.mp q2
    rw [bt_ne d0] at q3
    rw [q3, decide_eq_true (Decidable.not_not.mp q), if_pos (by decide)] at ih
    exact ih
theorem mut_ok (hs : SROK SR) (h : INVM SR M) (f : ∀ c k, ¬ baseC c k → ¬ (c = 0 ∧ k = 7) → ¬ c = 74 → ¬ (c = 104 ∧ (k = 10 ∨ k = 26)) → M' c k = M c k) (hb : BASE M') (h7 : M' 0 7 = 0) (z3 : M' 74 3 = 0) (z6 : M' 74 6 = 0) (z10 : M' 74 10 = 0) (z13 : M' 74 13 = 0) (h26 : M' 104 26 = 0)
    (hr : M' 104 10 = 0 ∨ ∀ c k, (c = 109 ∨ c = 110 ∨ (c = 104 ∧ (k = 0 ∨ k = 10))) → M' c k = M c k) : INVM SR M' := by
  obtain ⟨⟨h1, h2, h3, h4, h5, h6, h7'⟩, h8⟩ := h
  refine ⟨⟨hb, ?_, by rw [f 104 32 (by unfold baseC; omega) (by omega) (by omega) (by omega)]; exact h3, Or.inl h7, hs.2.1 M' z3 z6 z10 z13, hs.2.2 M M' h6 fun c k q => f c k (by unfold baseC; omega) (by omega) (by omega) (by omega), FND.fr h7' (f _ _ (by unfold baseC; omega) (by omega) (by omega) (by omega)) (f _ _ (by unfold baseC; omega) (by omega) (by omega) (by omega))⟩, Or.inl h26⟩
  rcases hr with w | w
  · exact Or.inl w
  · unfold RDI
    rw [w 104 10 (by omega)]
    refine h2.imp id fun v => ⟨v.1, v.2.fr2 fun c k q => ?_⟩
    by_cases e : 113 ≤ c
    · exact f c k (by unfold baseC; omega) (by omega) (by omega) (by omega)
    · exact w c k (by omega)
/-- a rank or a worth is set -/
theorem set_ok {d0 e0 : Nat} {a v : Int} (hd : d0 = 7 ∧ e0 = 111 ∨ d0 = 8 ∧ e0 = 112) (hs : SROK SR) (h : INVM SR M) (a0 : 0 ≤ a) (a1 : a < 8) (v0 : 0 ≤ v) (v1 : v ≤ 99) (F : ∀ x k, ¬ (x = d0 ∧ k = a) → ¬ (x = e0 ∧ k = a) → ¬ (x = 6 ∧ k = 0) → ¬ (x = 0 ∧ k = 7) → ¬ x = 74 → ¬ (x = 104 ∧ k = 26) → M' x k = M x k) (hd2 : M' d0 a = v) (he : M' e0 a = v) (h60 : M' 6 0 = areB M) (h7 : M' 0 7 = 0) (z3 : M' 74 3 = 0) (z6 : M' 74 6 = 0) (z10 : M' 74 10 = 0) (z13 : M' 74 13 = 0) (h26 : M' 104 26 = 0) : INVM SR M' := by
  obtain ⟨b1, b2, b3, b4, b5, b6⟩ := h.1.1
  have F' : ∀ x k, ¬ x = d0 → ¬ x = e0 → ¬ x = 6 → ¬ (x = 0 ∧ k = 7) → ¬ x = 74 → ¬ (x = 104 ∧ k = 26) → M' x k = M x k := fun x k p q r s t u => F x k (by omega) (by omega) (by omega) s t u
  refine mut_ok hs h (fun c k p q r s => F c k (by unfold baseC at p; omega) (by unfold baseC at p; omega) (by unfold baseC at p; omega) q r (by omega)) ⟨b1.fr fun c k q => F' c k (by omega) (by omega) (by omega) (by omega) (by omega) (by omega), fun t t0 t1 => ((b2 t t0 t1).fr fun c k q => ?_).1, fun t t0 t1 => ?_, ?_, b5.fr fun c k q => F c k (by omega) (by omega) (by omega) (by omega) (by omega) (by omega), ?_⟩ h7 z3 z6 z10 z13 h26 (Or.inr fun c k q => F' c k (by omega) (by omega) (by omega) (by omega) (by omega) (by omega))
  · have := pl_rg t0 t1
    exact F' c k (by omega) (by omega) (by omega) (by omega) (by omega) (by omega)
  · by_cases e : t = a
    · obtain ⟨r1, r2, r3, r4, r5, r6, r7⟩ := b3 t t0 t1
      subst e
      unfold BRnk
      rw [F' 9 t (by omega) (by omega) (by omega) (by omega) (by omega) (by omega)]
      rcases hd with ⟨rfl, rfl⟩ | ⟨rfl, rfl⟩
      · rw [F' 112 t (by omega) (by omega) (by omega) (by omega) (by omega) (by omega), F' 8 t (by omega) (by omega) (by omega) (by omega) (by omega) (by omega), hd2, he]
        exact ⟨v0, v1, rfl, r4, r5, r6, r7⟩
      · rw [F' 111 t (by omega) (by omega) (by omega) (by omega) (by omega) (by omega), F' 7 t (by omega) (by omega) (by omega) (by omega) (by omega) (by omega), hd2, he]
        exact ⟨r1, r2, r3, v0, v1, rfl, r7⟩
    · exact (b3 t t0 t1).fr fun c q => F c t (by omega) (by omega) (by omega) (by omega) (by omega) (by omega)
  · rw [F' 104 9 (by omega) (by omega) (by omega) (by omega) (by omega) (by omega), F' 0 8 (by omega) (by omega) (by omega) (by omega) (by omega) (by omega)]
    exact b4
  · rw [h60, are_fr (M := M) (M' := M') fun c k q => F' c k (by omega) (by omega) (by omega) (by omega) (by omega) (by omega)]
theorem op_7 (hs : SROK SR) (a b v : Int) : OpOk sx L (INVM SR) 100 156 [vI a, vI b, vI v] := by
  intro M h
  have hb := h.1.1
  have dB : inB (M 0 8) := by
    obtain ⟨d1, d2, d3⟩ := hb.2.2.2.1
    exact ⟨by omega, by omega⟩
  by_cases g : (0 ≤ a ∧ a < 8) ∧ (0 ≤ b ∧ b ≤ 1) ∧ 0 ≤ v ∧ v ≤ 99
  · have main : ∀ (d0 e0 : Nat), (d0 = 7 ∧ e0 = 111 ∧ b = 0 ∨ d0 = 8 ∧ e0 = 112 ∧ ¬ b = 0) → K0[d0]? = some (10, 8) → Rn sx L K0 R0 100 4 [vR 2, vI a, vI b, vI v, vU, vU] [vR (d0 + 2)] M (fun rv M1 => ∃ r, rv = some (vI r) ∧ Mq sx L K0 R0 156 [vR 106, vI a, vI b, vI v] M1 (fun rv2 M2 => rv2 = some (vI r) ∧ INVM SR M2)) := by
      intro d0 e0 hd hk
      have b3 := hb.2.2.1 a g.1.1 g.1.2
      have e8 : mset M d0 a v 0 8 = M 0 8 := ms_c (by omega)
      refine b_100_4 hk ⟨g.1, g.1, s_134 (by rw [e8]; exact dB) fun M1 h60 h7 z3 z6 z10 z13 f1 => ⟨rfl, _, rfl, ?_⟩⟩
      rw [cls_are hb (fun t t0 t1 => by have := pl_rg t0 t1; exact ms_c (by omega)) e8] at h60
      have F1 : ∀ x k, ¬ (x = d0 ∧ k = a) → ¬ (x = 6 ∧ k = 0) → ¬ (x = 0 ∧ k = 7) → ¬ x = 74 → M1 x k = M x k := fun x k p q r s => by rw [f1 x k q r s, ms_ne p]
      have old : M d0 a = M e0 a := by
        rcases hd with ⟨rfl, rfl, _⟩ | ⟨rfl, rfl, _⟩
        · exact b3.2.2.1
        · exact b3.2.2.2.2.2.1
      have fin : ∀ M2 : Mem, (∀ x k, ¬ (x = e0 ∧ k = a) → ¬ (x = 104 ∧ k = 26) → M2 x k = M1 x k) → M2 e0 a = v → M2 104 26 = 0 → INVM SR M2 := fun M2 f2 e2 h26 => by
        refine set_ok (M := M) (M' := M2) (d0 := d0) (e0 := e0) (a := a) (v := v) (by omega) hs h g.1.1 g.1.2 g.2.2.1 g.2.2.2 (fun x k p q r s t u => by rw [f2 x k q u]; exact F1 x k p r s t) ?_ e2 ?_ ?_ ?_ ?_ ?_ ?_ h26
        · rw [f2 _ _ (by omega) (by omega), f1 _ _ (by omega) (by omega) (by omega), ms_eq]
        · rw [f2 _ _ (by omega) (by omega)]; exact h60
        · rw [f2 _ _ (by omega) (by omega)]; exact h7
        · rw [f2 _ _ (by omega) (by omega)]; exact z3
        · rw [f2 _ _ (by omega) (by omega)]; exact z6
        · rw [f2 _ _ (by omega) (by omega)]; exact z10
        · rw [f2 _ _ (by omega) (by omega)]; exact z13
      have o1 : M1 e0 a = M e0 a := F1 _ _ (by omega) (by omega) (by omega) (by omega)
      refine m_156 (b_156_0 (s_142 fun r hr => ⟨r, rfl, fun q => absurd q (by omega), fun _ => s_137 fun r2 hr2 => ⟨r2, rfl, fun q => absurd q (by omega), fun _ => s_137 fun r3 hr3 => ⟨r3, rfl, fun _ => b_156_2 ⟨fun w => b_156_3 ⟨g.1, b_156_4 ⟨fun w2 => b_156_5 ⟨g.1, b_156_6 ⟨g.1, fun w3 => absurd w3 (by omega), fun _ => b_156_8 ⟨g.1, ?_, ?_⟩⟩⟩, fun w2 => absurd w w2⟩⟩, fun w => ⟨g.1, b_156_4 ⟨fun w2 => absurd w2 w, fun _ => b_156_6 ⟨g.1, fun w3 => b_156_7 ⟨g.1, b_156_8 ⟨g.1, ?_, ?_⟩⟩, fun w3 => absurd (by omega) w⟩⟩⟩⟩, fun q => absurd (by omega) q⟩⟩⟩))
      · obtain ⟨rfl, rfl, _⟩ : d0 = 8 ∧ e0 = 112 ∧ ¬ b = 0 := by omega
        rw [o1, old]
      · obtain ⟨rfl, rfl, _⟩ : d0 = 8 ∧ e0 = 112 ∧ ¬ b = 0 := by omega
        refine fin _ (fun x k p q => ?_) ?_ ms_eq
        · rw [ms_ne q, ms_ne p]
          by_cases e : x = 111 ∧ k = a
          · rw [e.1, e.2, ms_eq]
          · rw [ms_ne e]
        · rw [ms_c (by omega), ms_eq]
      · obtain ⟨rfl, rfl, _⟩ : d0 = 7 ∧ e0 = 111 ∧ b = 0 := by omega
        rw [o1, old]
      · obtain ⟨rfl, rfl, _⟩ : d0 = 7 ∧ e0 = 111 ∧ b = 0 := by omega
        refine fin _ (fun x k p q => ?_) ?_ ms_eq
        · rw [ms_ne q]
          by_cases e : x = 112 ∧ k = a
          · rw [e.1, e.2, ms_eq, ms_c (by omega)]
          · rw [ms_ne e, ms_ne p]
        · rw [ms_c (by omega), ms_c (by omega), ms_eq]
    exact m_100 (b_100_0 (s_125 fun r hr => ⟨r, rfl, fun q => absurd q (by omega), fun _ => ⟨fun q => absurd q (by omega), fun _ => ⟨fun q => absurd q (by omega), fun _ => ⟨fun q => absurd q (by omega), fun _ => ⟨fun _ => b_100_2 ⟨fun w => b_100_3 (main 8 112 (by omega) (by decide +kernel)), fun w => main 7 111 (by omega) (by decide +kernel)⟩, fun q => absurd (by omega) q⟩⟩⟩⟩⟩))
  · refine ref_ok h (fun Q hQ => m_100 (b_100_0 (s_125 fun r hr => ⟨r, rfl, fun q => b_100_1 hQ, fun _ => ⟨fun q => b_100_1 hQ, fun q => ⟨fun q => b_100_1 hQ, fun _ => ⟨fun q => b_100_1 hQ, fun _ => ⟨fun q => absurd (by omega) g, fun _ => b_100_1 hQ⟩⟩⟩⟩⟩))) (fun Q hQ => m_156 (b_156_0 (s_142 fun r hr => ⟨r, rfl, fun q => b_156_1 hQ, fun _ => s_137 fun r2 hr2 => ⟨r2, rfl, fun q => b_156_1 hQ, fun _ => s_137 fun r3 hr3 => ⟨r3, rfl, fun _ => absurd (by omega) g, fun _ => b_156_1 hQ⟩⟩⟩)))
end
