/-! the searches' calls -/
section
variable {sx : Int → Int} {L : Nat} {M N : Mem} {Q : Option AV → Mem → Prop}
/-- what the searches keep -/
def SR1 (M : Mem) : Prop := BASE M → KB M ∧ KS M ∧ KW M ∧ KM M
theorem SR1_ok : SROK (SR1, SHT) := by
  refine ⟨fun M M' h bf f hb' => ?_, fun M a b c d _ => ⟨Or.inl a, Or.inl b, Or.inl c, Or.inl d⟩, fun M M' h f => SHT.fr h f⟩
  have hb := hb'.fr bf.sy
  obtain ⟨k1, k2, k3, k4⟩ := h hb
  exact ⟨k1.fr hb bf (fun k _ => f 74 k (by omega)) fun k => f 101 k (by omega), k2.fr hb bf fun k _ _ => f 74 k (by omega), k3.fr hb bf (fun k _ => f 74 k (by omega)) fun k => f 102 k (by omega), k4.fr hb bf (f 74 13 (by omega)) fun k => f 103 k (by omega)⟩
abbrev SRz : (Mem → Prop) × (Mem → Prop) := (SR1, SHT)
theorem srK (h : INVM SRz M) : KB M ∧ KS M ∧ KW M ∧ KM M := h.1.2.2.2.2.1 h.1.1
theorem op_best (a : Int) : OpOk sx L (INVM SRz) 111 204 [vI a] := by
  intro M h
  have hs := SR1_ok
  have hb := h.1.1
  have e60 : M 6 0 = areB M := hb.2.2.2.2.2
  have al := are_lt (M := M)
  have on := onF_B (b := areB M)
  obtain ⟨k1, k2, k3, k4⟩ := srK h
  by_cases g : 0 ≤ a ∧ a < onF (areB M)
  · by_cases g5 : onF (areB M) ≤ 5
    · have en : ((nmB M : Nat) : Int) = onF (areB M) := by unfold nmB; omega
      refine m_111 (b_111_0 ?_)
      rw [e60]
      refine s_226 al.1 al.2 ⟨_, rfl, fun q => absurd g.1 (by omega), fun _ => ⟨fun _ => b_111_2 ⟨fun _ => b_111_3 (s_56 hb k1 (by omega) (by omega) fun M1 fx is bs => ⟨rfl, ?_⟩), fun q => absurd g5 q⟩, fun q => absurd g.2 q⟩⟩
      have bf := fx.s.bf
      have hb1 := hb.fr bf
      have bs1 := BsX_bm hb bf bs
      obtain ⟨z1, z2, z3⟩ := bmO hb bf
      have i1 : INVM SRz M1 := h.sea hs fx.s fun _ => ⟨Or.inr bs1, k2.fr hb bf fun k _ _ => fx 74 k (by omega) (by omega), k3.fr hb bf (fun k _ => fx 74 k (by omega) (by omega)) fun k => fx 102 k (by omega) (by omega), k4.fr hb bf (fx 74 13 (by omega) (by omega)) fun k => fx 103 k (by omega) (by omega)⟩
      have ref : ∀ r, (r = if M1 74 4 = 0 then -1 else M1 101 a) → Mq sx L K0 R0 204 [vR 106, vI a] M1 (fun rv2 M2 => rv2 = some (vI r) ∧ INVM SRz M2) := by
        intro r hr
        have o1 := bf.are
        refine m_204 (b_204_0 (s_154 (I := INVM SRz) (fun M h => h.1.1) (fun Q hQ => s_150i hs i1 hQ) fun N1 j1 e1 r1 f1 => ⟨_, rfl, s_138 areB_B ⟨_, rfl, ⟨by rw [o1]; omega, by rw [o1]; omega⟩, s_137 fun r3 hr3 => ⟨r3, rfl, fun _ => b_204_1 (s_138 areB_B ⟨_, rfl, fun _ => b_204_2 (s_203 hs hb1 j1.1 f1.bf (by omega) (by omega) fun N2 rr j2 b2 r01 bs2 => ⟨_, rfl, fun q => b_204_3 (b_204_4 ⟨?_, j2⟩), fun q => ⟨⟨by omega, by omega⟩, b_204_4 ⟨?_, j2⟩⟩⟩), fun q => absurd (by rw [o1]; omega) q⟩), fun q => absurd (by rw [o1] at hr3; omega) q⟩⟩⟩))
        · have u := BsX_u bs1 bs2
          rw [hr, if_pos (by omega)]
        · have u := BsX_u bs1 bs2
          rw [hr, if_neg (by omega)]
          have := u.2 (by omega) a g.1 (by omega)
          rw [show M1 101 a = N2 138 a from this]
      refine m_57 (b_57_0 ⟨fun q => b_57_1 (b_57_2 ⟨_, rfl, _, rfl, ref _ (by rw [if_pos q])⟩), fun q => s_58 g.1 (by omega) ?_ ⟨_, rfl, b_57_2 ⟨_, rfl, _, rfl, ref _ (by rw [if_neg q])⟩⟩⟩)
      rcases bs with w | ⟨w, m, m1, m2, m3, m4⟩
      · exact absurd w.1 q
      · have e : M1 101 a = oM M m a := m4 a g.1 (by omega)
        have := (oM_ok (M := M) (by omega) (by omega) m1).1 a g.1 (by omega)
        rw [e]; exact ⟨this.1, this.2.1⟩
    · have ref : Mq sx L K0 R0 204 [vR 106, vI a] M (fun rv2 M2 => rv2 = some (vI (-4)) ∧ INVM SRz M2) :=
        m_204 (b_204_0 (s_154 (I := INVM SRz) (fun M h => h.1.1) (fun Q hQ => s_150i hs h hQ) fun N1 j1 e1 r1 f1 => ⟨_, rfl, s_138 areB_B ⟨_, rfl, ⟨by omega, by omega⟩, s_137 fun r3 hr3 => ⟨r3, rfl, fun _ => b_204_1 (s_138 areB_B ⟨_, rfl, fun q => absurd q g5, fun _ => ⟨rfl, j1⟩⟩), fun q => absurd (by omega) q⟩⟩⟩))
      refine m_111 (b_111_0 ?_)
      rw [e60]
      exact s_226 al.1 al.2 ⟨_, rfl, fun q => absurd g.1 (by omega), fun _ => ⟨fun _ => b_111_2 ⟨fun q => absurd q g5, fun _ => ⟨_, rfl, ref⟩⟩, fun q => absurd g.2 q⟩⟩
  · have ref : Mq sx L K0 R0 204 [vR 106, vI a] M (fun rv2 M2 => rv2 = some (vI (-2)) ∧ INVM SRz M2) :=
      m_204 (b_204_0 (s_154 (I := INVM SRz) (fun M h => h.1.1) (fun Q hQ => s_150i hs h hQ) fun N1 j1 e1 r1 f1 => ⟨_, rfl, s_138 areB_B ⟨_, rfl, ⟨by omega, by omega⟩, s_137 fun r3 hr3 => ⟨r3, rfl, fun q => absurd (by omega) g, fun _ => ⟨rfl, j1⟩⟩⟩⟩))
    refine m_111 (b_111_0 ?_)
    rw [e60]
    exact s_226 al.1 al.2 ⟨_, rfl, fun _ => b_111_1 ⟨_, rfl, ref⟩, fun q => ⟨fun q2 => absurd (by omega) g, fun _ => b_111_1 ⟨_, rfl, ref⟩⟩⟩
theorem op_shed (a : Int) : OpOk sx L (INVM SRz) 113 207 [vI a] := by
  intro M h
  have hs := SR1_ok
  have hb := h.1.1
  obtain ⟨k1, k2, k3, k4⟩ := srK h
  by_cases g : 0 ≤ a ∧ a ≤ 1
  · refine m_113 (b_113_0 ⟨fun q => absurd g.1 (by omega), fun _ => ⟨fun _ => b_113_2 (s_63 hb k2 fun M1 fx e7 e8 => ⟨rfl, ?_⟩), fun q => absurd g.2 q⟩⟩)
    have bf := fx.s.bf
    obtain ⟨z1, z2⟩ := shF_bm hb bf
    have z3 := z2 256 (Nat.le_refl _)
    have i1 : INVM SRz M1 := h.sea hs fx.s fun _ => ⟨k1.fr hb bf (fun k _ => fx 74 k (by omega) (by omega)) fun k => fx 101 k (by omega) (by omega), Or.inr ⟨by rw [z3]; exact e7, by rw [z3, z1, bf.are]; exact e8⟩, k3.fr hb bf (fun k _ => fx 74 k (by omega) (by omega)) fun k => fx 102 k (by omega) (by omega), k4.fr hb bf (fx 74 13 (by omega) (by omega)) fun k => fx 103 k (by omega) (by omega)⟩
    refine ⟨fun q => b_113_3 (b_113_4 ⟨_, rfl, ?_⟩), fun q => b_113_4 ⟨_, rfl, ?_⟩⟩
    · refine s_207 hs i1 g.1 g.2 (fun w => absurd w q) fun _ N j => ⟨?_, j⟩
      rw [e8, z3, z1, bf.are]
    · refine s_207 hs i1 g.1 g.2 (fun _ N j => ⟨?_, j⟩) fun w => absurd (Decidable.not_not.mp q) w
      rw [e7, z3]
  · exact ref_ok h (fun Q hQ => m_113 (b_113_0 ⟨fun _ => b_113_1 hQ, fun q => ⟨fun q2 => absurd (by omega) g, fun _ => b_113_1 hQ⟩⟩)) fun Q hQ => m_207 (b_207_0 (s_137 fun r hr => ⟨r, rfl, fun q => absurd (by omega) g, fun _ => hQ⟩))
theorem op_whatever (a j w : Int) : OpOk sx L (INVM SRz) 114 208 [vI a, vI j, vI w] := by
  intro M h
  have hs := SR1_ok
  have hb := h.1.1
  have e60 : M 6 0 = areB M := hb.2.2.2.2.2
  have al := are_lt (M := M)
  have on := onF_B (b := areB M)
  obtain ⟨k1, k2, k3, k4⟩ := srK h
  by_cases g : (0 ≤ a ∧ a < 8) ∧ (1 ≤ j ∧ j ≤ 3) ∧ 0 ≤ w ∧ w ≤ 1
  · have pre : ∀ Q : Option AV → Mem → Prop, Rn sx L K0 R0 114 2 [vR 2, vI a, vI j, vI w] [] M Q → Mq sx L K0 R0 114 [vR 2, vI a, vI j, vI w] M Q := fun Q hQ =>
      m_114 (b_114_0 (s_125 fun r hr => ⟨r, rfl, fun q => absurd q (by omega), fun _ => ⟨fun q => absurd g.2.1.1 (by omega), fun _ => ⟨fun q => absurd g.2.1.2 (by omega), fun _ => ⟨fun q => absurd g.2.2.1 (by omega), fun _ => ⟨fun _ => hQ, fun q => absurd g.2.2.2 q⟩⟩⟩⟩⟩))
    refine pre _ (b_114_2 ?_)
    rw [e60]
    by_cases o : onF (areB M) ≤ 4
    · refine s_226 al.1 al.2 ⟨_, rfl, fun _ => b_114_3 (s_65 hb k3 g.2.1.1 g.2.1.2 o fun M1 fx e10 kw => ⟨rfl, ?_⟩), fun q => absurd o q⟩
      have bf := fx.s.bf
      have i1 : INVM SRz M1 := h.sea hs fx.s fun _ => ⟨k1.fr hb bf (fun k _ => fx 74 k (by omega) (by omega) (by omega)) fun k => fx 101 k (by omega) (by omega) (by omega), k2.fr hb bf fun k _ _ => fx 74 k (by omega) (by omega) (by omega), kw, k4.fr hb bf (fx 74 13 (by omega) (by omega) (by omega)) fun k => fx 103 k (by omega) (by omega) (by omega)⟩
      have kw' : M1 74 12 = lwW M1 j (wyN M1 j) ∧ ∀ t, 0 ≤ t → t < 8 → M1 102 t = mxW M1 j (wyN M1 j) t := by
        rcases kw with z | z
        · omega
        · rw [e10] at z; exact z.2.2
      have o1 : onF (areB M1) ≤ 4 := by rw [bf.are]; exact o
      refine ⟨fun q => b_114_4 (b_114_5 ⟨_, rfl, ?_⟩), fun q => ⟨g.1, b_114_5 ⟨_, rfl, ?_⟩⟩⟩
      · refine s_208w hs i1 g.1.1 g.1.2 g.2.1.1 g.2.1.2 g.2.2.1 g.2.2.2 o1 (fun z => absurd z q) fun _ N jn => ⟨?_, jn⟩
        rw [kw'.1]
      · refine s_208w hs i1 g.1.1 g.1.2 g.2.1.1 g.2.1.2 g.2.2.1 g.2.2.2 o1 (fun _ N jn => ⟨?_, jn⟩) fun z => absurd (Decidable.not_not.mp q) z
        rw [kw'.2 a g.1.1 g.1.2]
    · refine s_226 al.1 al.2 ⟨_, rfl, fun q => absurd q o, fun _ => ⟨_, rfl, ?_⟩⟩
      exact m_208 (b_208_0 (s_142 fun r1 hr1 => ⟨r1, rfl, fun q => absurd q (by omega), fun _ => s_137 fun r2 hr2 => ⟨r2, rfl, fun q => absurd q (by omega), fun _ => s_137 fun r3 hr3 => ⟨r3, rfl, fun _ => b_208_2 (s_154 (I := INVM SRz) (fun M h => h.1.1) (fun Q hQ => s_150i hs h hQ) fun N1 j1 e1 r1 f1 => ⟨_, rfl, s_138 areB_B ⟨_, rfl, fun q => absurd q o, fun _ => ⟨rfl, j1⟩⟩⟩), fun q => absurd (by omega) q⟩⟩⟩))
  · refine ref_ok (r := -2) h (fun Q hQ => ?_) fun Q hQ => ?_
    · refine m_114 (b_114_0 (s_125 fun r hr => ⟨r, rfl, fun _ => b_114_1 hQ, fun q => ⟨fun _ => b_114_1 hQ, fun q1 => ⟨fun _ => b_114_1 hQ, fun q2 => ⟨fun _ => b_114_1 hQ, fun q3 => ⟨fun q4 => absurd ⟨by omega, by omega, by omega⟩ g, fun _ => b_114_1 hQ⟩⟩⟩⟩⟩))
    · exact m_208 (b_208_0 (s_142 fun r1 hr1 => ⟨r1, rfl, fun _ => b_208_1 hQ, fun q1 => s_137 fun r2 hr2 => ⟨r2, rfl, fun _ => b_208_1 hQ, fun q2 => s_137 fun r3 hr3 => ⟨r3, rfl, fun q3 => absurd ⟨by omega, by omega, by omega⟩ g, fun _ => b_208_1 hQ⟩⟩⟩))
theorem chG_bm {ru le i : Int} (hb : BASE M) (bf : BFr M N) (r0 : 0 ≤ ru) (r2 : ru ≤ 2) (l0 : 0 ≤ le) (l2 : le ≤ 2) (i0 : 0 ≤ i) (i1 : i < M 104 25) : RGf N ru le 135 (3 * i) = RGf M ru le 135 (3 * i) := by
  obtain ⟨g1, g2, g3, g4, g5, g6, g7, g8, g9, g10, g11, g12, g13⟩ := hb.2.2.2.2.1
  have e111 : (fun t => N 111 t) = fun t => M 111 t := funext fun t => bf.a (c := 111) (by omega) t
  have ok := OKF (ru := ru) (le := le) hb r0 r2 l0 l2
  unfold RGf
  rw [bf.are, bf.m (k := 25) (by omega), e111]
  exact two_ch (hb.fr VG_s.1) (PG_ok (hb.fr bf) (VG_s.bm bf.sy) (ok.bm bf.sy)) (PG_ok hb VG_s ok) s00_ok s00_ok (by omega) g11 i0 i1
theorem fiB_bm {a : Int} (hb : BASE M) (bf : BFr M N) (f : ∀ c j, 139 ≤ c ∧ c ≤ 142 → N c j = M c j) : mkB 9 (fiB N a) = mkB 9 (fiB M a) := by
  refine mkB_cg fun k k0 k1 => ?_
  have e25 : N 104 25 = M 104 25 := bf.m (by omega)
  have iff : fiS N a (k / 3) (k % 3) ↔ fiS M a (k / 3) (k % 3) := by
    have one : ∀ i, 0 ≤ i → i < M 104 25 → (okZ N a (k / 3) (k % 3) i ↔ okZ M a (k / 3) (k % 3) i) := fun i i0 i1 => by
      unfold okZ
      rw [f 142 _ (by omega), chG_bm hb bf (by omega) (by omega) (by omega) (by omega) i0 i1]
    unfold fiS
    rw [f 141 _ (by omega), e25]
    exact ⟨fun z i x y w => (one i x w).mp (z i x y w), fun z i x y w => (one i x w).mpr (z i x y w)⟩
  rcases Classical.em (fiS M a (k / 3) (k % 3)) with w | w
  · rw [fiB_t w, fiB_t (iff.mpr w)]
  · rw [fiB_f w, fiB_f fun z => w (iff.mp z)]
theorem op_fits (a : Int) : OpOk sx L (INVM SRz) 115 209 [vI a] := by
  intro M h
  have hs := SR1_ok
  have hb := h.1.1
  by_cases g : 0 ≤ a ∧ a < 4
  · have hS : SHT M := h.1.2.2.2.2.2.1
    have sa : SH1 M a := hS a g.1 g.2
    have a1 := sa.1
    have a2 := sa.2.1
    refine m_115 (b_115_0 (s_126 fun r hr => ⟨r, rfl, fun _ => b_115_1 g ⟨fun w => b_115_2 g (s_67 hb sa g (by omega) fun M2 f2 => ⟨_, rfl, b_115_3 ⟨_, rfl, ?_⟩⟩), fun w => s_132 (by omega) (by omega) ⟨_, rfl, b_115_3 ⟨_, rfl, ?_⟩⟩⟩, fun q => absurd (by omega) q⟩))
    · have i2 := h.tri hs f2
      have sb : SH1 M2 a := (i2.1.2.2.2.2.2.1 : SHT M2) a g.1 g.2
      refine s_209 hs i2 sb g (by rw [f2 _ _ (by omega)]; omega) fun N jn => ⟨?_, jn⟩
      rw [fiB_bm hb f2.bf fun c j q => f2 c j (by omega)]
    · refine m_209 (b_209_0 (s_215 fun r hr => ⟨r, rfl, fun _ => b_209_1 ⟨g, fun q => absurd (by rw [ms_c (by omega)]; omega) q, fun _ => s_214 (by omega) (by omega) ⟨_, rfl, rfl, fnd_ok hs h (by omega) (by omega)⟩⟩, fun q => absurd (by omega) q⟩))
  · exact ref_ok h (fun Q hQ => m_115 (b_115_0 (s_126 fun r hr => ⟨r, rfl, fun q => absurd (by omega) g, fun _ => hQ⟩))) fun Q hQ => m_209 (b_209_0 (s_215 fun r hr => ⟨r, rfl, fun q => absurd (by omega) g, fun _ => hQ⟩))
theorem op_mended (a : Int) : OpOk sx L (INVM SRz) 116 213 [vI a] := by
  intro M h
  have hs := SR1_ok
  have hb := h.1.1
  obtain ⟨k1, k2, k3, k4⟩ := srK h
  by_cases g : 0 ≤ a ∧ a ≤ 4
  · refine m_116 (b_116_0 ⟨fun q => absurd g.1 (by omega), fun _ => ⟨fun _ => b_116_2 (s_69 hb k4 fun M1 fx rs => ⟨rfl, ?_⟩), fun q => absurd g.2 q⟩⟩)
    have bf := fx.s.bf
    have rs1 := RsX_bm hb bf rs
    have i1 : INVM SRz M1 := h.sea hs fx.s fun _ => ⟨k1.fr hb bf (fun k _ => fx 74 k (by omega) (by omega) (by omega)) fun k => fx 101 k (by omega) (by omega) (by omega), k2.fr hb bf fun k _ _ => fx 74 k (by omega) (by omega) (by omega), k3.fr hb bf (fun k _ => fx 74 k (by omega) (by omega) (by omega)) fun k => fx 102 k (by omega) (by omega) (by omega), Or.inr rs1⟩
    have three : ¬ (0 < a ∧ M1 103 0 = -1) → Rn sx L K0 R0 116 3 [vR 2, vI a] [] M1 (fun rv M1 => ∃ r, rv = some (vI r) ∧ Mq sx L K0 R0 213 [vR 106, vI a] M1 (fun rv2 M2 => rv2 = some (vI r) ∧ INVM SRz M2)) := fun q =>
      b_116_3 ⟨⟨by omega, by omega⟩, _, rfl, s_213 hs i1 g.1 g.2 rs1 fun N jn => ⟨by rw [if_neg q], jn⟩⟩
    refine ⟨fun q => three (by omega), fun q => ⟨⟨by omega, by omega⟩, fun q2 => three (by omega), fun q2 => ⟨_, rfl, s_213 hs i1 g.1 g.2 rs1 fun N jn => ⟨by rw [if_pos (by omega)], jn⟩⟩⟩⟩
  · exact ref_ok h (fun Q hQ => m_116 (b_116_0 ⟨fun _ => b_116_1 hQ, fun q => ⟨fun q2 => absurd (by omega) g, fun _ => b_116_1 hQ⟩⟩)) fun Q hQ => m_213 (b_213_0 (s_137 fun r hr => ⟨r, rfl, fun q => absurd (by omega) g, fun _ => hQ⟩))
end
