/-! the class: the next one to go on -/
section
variable {sx : Int → Int} {L : Nat} {P s M : Mem} {τ : Int} {Q : Option AV → Mem → Prop} {B : Nat}
def offK (P : Mem) : Int := if P 104 33 = 0 then 99 else 0
/-- who goes on, who works, who waits, as bits -/
def BT (s M : Mem) (B : Nat) : Prop := M B 11 = mkB 8 (fun t => decide (¬ s 130 t = 0)) ∧ M B 12 = mkB 8 (fun t => decide (s 132 t = 1)) ∧ M B 13 = mkB 8 (fun t => decide (s 132 t = 2))
def STs (s : Mem) : Prop := ∀ t, 0 ≤ t → t < 8 → STt s t
theorem tb8 {p : Int → Bool} {t : Int} (h0 : 0 ≤ t) (h1 : t < 8) : tb (mkB 8 p) t = p t := by
  rw [tb_mkB 8 p (by omega) h0, decide_eq_true (show t < ((8 : Nat) : Int) by omega), Bool.true_and]
theorem tb8' {p : Int → Bool} {t : Int} (h0 : 0 ≤ t) (h1 : ¬ t < 8) : tb (mkB 8 p) t = false := by
  rw [tb_mkB 8 p (by omega) h0, decide_eq_false (show ¬ t < ((8 : Nat) : Int) by omega), Bool.false_and]
theorem s_41 (hB : isRb B) (h11 : M 1 1 = firB P) (hv : SV P s) (hst : STs s) (h12 : ∀ t, 0 ≤ t → t < 8 → M (ckA B t) 12 = s 129 t) (hb : BT s M B) (hk : ∀ t, 0 ≤ t → t < 8 → s 130 t = 1 → M (ckA B t) 15 + offK P = frc P s t)
    (hQ : Q (some (vI (nextF P s))) M) : Mq sx L K0 R0 41 [vR (B + 2)] M Q := by
  obtain ⟨b11, b12, b13⟩ := hb
  have i11 : inB (M B 11) := by rw [b11]; exact mkB_B 8 _ (by omega)
  have i12 : inB (M B 12) := by rw [b12]; exact mkB_B 8 _ (by omega)
  have i13 : inB (M B 13) := by rw [b13]; exact mkB_B 8 _ (by omega)
  have io : inB (iAnd (iAnd (M B 11) (iXor (M B 12) (-1))) (iXor (M B 13) (-1))) := andn_B (andn_B i11 i12) i13
  have ob : ∀ t, 0 ≤ t → t < 8 → (tb (iAnd (iAnd (M B 11) (iXor (M B 12) (-1))) (iXor (M B 13) (-1))) t = true ↔ ¬ s 130 t = 0 ∧ s 132 t = 3) := by
    intro t a b
    rw [tb_andn (andn_B i11 i12) i13, tb_andn i11 i12, b11, b12, b13, tb8 a b, tb8 a b, tb8 a b]
    have z := hst t a b
    have y := (hv t a b).2.2.2.2.1
    simp only [Bool.and_eq_true, Bool.not_eq_true', decide_eq_true_eq, decide_eq_false_iff_not]
    constructor
    · rintro ⟨⟨c, d⟩, e⟩
      have := z.2.1 (by omega)
      exact ⟨c, by omega⟩
    · rintro ⟨c, d⟩
      exact ⟨⟨c, by omega⟩, by omega⟩
  refine m_41 (b_41_0 hB ?_)
  generalize iAnd (iAnd (M B 11) (iXor (M B 12) (-1))) (iXor (M B 13) (-1)) = o at io ob ⊢
  refine lpI (N := 8) (G := fun k => ∀ x3 x4 u6 u7 u8, (¬ (nx (frc P s) P s k.toNat).1 = -1 → x3 + offK P = frc P s (nx (frc P s) P s k.toNat).1) → (x4 = if (nx (frc P s) P s k.toNat).2 = true then 1 else 0) → cat2 u6 = false → cat2 u7 = false → cat2 u8 = false → Rn sx L K0 R0 41 1 [vR (B + 2), vI o, vI (nx (frc P s) P s k.toNat).1, vI x3, vI x4, vI k, u6, u7, u8] [] M Q) (fun k k0 k1 ih => ?_) (fun x3 x4 u6 u7 u8 _ _ h6 h7 h8 => b_41_1 hB h6 h7 h8 ⟨fun _ => b_41_10 hB h6 h7 h8 hQ, fun q => absurd (by omega) q⟩) 0 (by omega) (by omega) 0 0 vU vU vU (fun q => absurd rfl q) rfl rfl rfl rfl
  intro x3 x4 u6 u7 u8 hx3 hx4 h6 h7 h8
  have hBn := nx_B (P := P) (s := s) (f := frc P s) k.toNat
  rw [nx_s k0] at ih
  have hc := isCk_A hB k0 k1
  generalize nx (frc P s) P s k.toNat = z at hBn ih hx3 hx4 ⊢
  obtain ⟨zb, zf⟩ := z
  dsimp only at hx3 hx4 hBn ih ⊢
  have skip : ¬ (¬ s 130 k = 0 ∧ s 132 k = 3 ∧ betF (frc P s) P s k (zb, zf) = true) → ∀ u6 u7 u8, cat2 u6 = false → cat2 u7 = false → cat2 u8 = false → Rn sx L K0 R0 41 9 [vR (B + 2), vI o, vI zb, vI x3, vI x4, vI k, u6, u7, u8] [] M Q := by
    intro q u6 u7 u8 h6 h7 h8
    rw [if_neg q] at ih
    exact b_41_9 hB h6 h7 h8 ⟨⟨by omega, by omega⟩, ih x3 x4 u6 u7 u8 hx3 hx4 h6 h7 h8⟩
  refine b_41_1 hB h6 h7 h8 ⟨fun q => absurd q (by omega), fun _ => ⟨⟨io.1, k0, by omega⟩, fun q => ?_, fun q => skip (fun w => ?_) _ _ _ h6 h7 h8⟩⟩
  · rw [bt_ne io] at q
    have ho := (ob k k0 k1).mp (by simpa using q)
    have s1 := hv.on k0 k1 ho.1
    have ek := hk k k0 k1 s1
    have four : ∀ y : Int, (y = if firP P s k = true then 1 else 0) → Rn sx L K0 R0 41 4 [vR (B + 2), vI o, vI zb, vI x3, vI x4, vI k, vR (ckA B k + 2), u7, u8] [vI y] M Q := by
      intro y hy
      have eight : betF (frc P s) P s k (zb, zf) = true → ∀ x8, Rn sx L K0 R0 41 8 [vR (B + 2), vI o, vI zb, vI x3, vI x4, vI k, vR (ckA B k + 2), vI y, vI x8] [] M Q := by
        intro w x8
        rw [if_pos ⟨ho.1, ho.2, w⟩] at ih
        refine b_41_8 hB hc (b_41_9 hB rfl rfl rfl ⟨⟨by omega, by omega⟩, ih _ _ _ _ _ (fun _ => ek) hy rfl rfl rfl⟩)
      have seven : ∀ y8 : Int, (¬ zb = -1 → (y8 = 0 ↔ betF (frc P s) P s k (zb, zf) = false)) → Rn sx L K0 R0 41 7 [vR (B + 2), vI o, vI zb, vI x3, vI x4, vI k, vR (ckA B k + 2), vI y, u8] [vI y8] M Q := by
        intro y8 h
        refine b_41_7 hB hc h8 ⟨fun w => eight ?_ _, fun w => ⟨fun w2 => skip (fun v => ?_) _ _ _ rfl rfl rfl, fun w2 => eight ?_ _⟩⟩
        · unfold betF
          rw [decide_eq_true w]
          rfl
        · rw [(h w).mp w2] at v
          exact absurd v.2.2 (by decide)
        · cases e : betF (frc P s) P s k (zb, zf)
          · exact absurd ((h w).mpr e) w2
          · rfl
      have eqf : y = x4 ↔ firP P s k = zf := by
        rw [hy, hx4]
        cases firP P s k <;> cases zf <;> simp
      refine b_41_4 hB hc h7 h8 ⟨fun w => b_41_6 hB hc h8 (seven y fun w1 => ?_), fun w => ⟨fun w2 => b_41_5 hB hc h8 (seven 0 fun w1 => ⟨fun _ => ?_, fun _ => rfl⟩), fun w2 => seven 1 fun w1 => ⟨fun v => by omega, fun v => ?_⟩⟩⟩
      · unfold betF
        dsimp only
        rw [decide_eq_false w1, decide_eq_false (fun e => w (eqf.mpr e))]
        rw [hy]
        have w' : ¬ firP P s k = zf := fun e => w (eqf.mpr e)
        revert w'
        cases firP P s k <;> cases zf <;> simp
      · have e := eqf.mp (Decidable.not_not.mp w)
        have h3 := hx3 w1
        unfold betF
        dsimp only
        rw [decide_eq_false w1, decide_eq_false (show ¬ frc P s k < frc P s zb by omega), e]
        cases zf <;> simp
      · have e := eqf.mp (Decidable.not_not.mp w)
        have h3 := hx3 w1
        unfold betF at v
        dsimp only at v
        rw [decide_eq_true (show frc P s k < frc P s zb by omega), decide_eq_true e] at v
        simp at v
    have ef : firP P s k = decide (¬ iAnd (M (ckA B k) 12) (M 1 1) = 0) := by
      unfold firP
      rw [h12 k k0 k1, h11]
    refine b_41_2 hB h6 h7 h8 ⟨k0, k1⟩ ⟨fun w => b_41_3 hB hc h7 h8 (four 0 ?_), fun w => four 1 ?_⟩
    · rw [ef, decide_eq_false (fun v => v w)]; rfl
    · rw [ef, decide_eq_true w]; rfl
  · have := (ob k k0 k1).mpr ⟨w.1, w.2.1⟩
    have q' := Decidable.not_not.mp q
    rw [bt_ne io] at q'
    rw [q'] at this
    cases this
end
