section
variable {sx : Int → Int} {L : Nat} {M : Mem} {Q : Option AV → Mem → Prop} {x : Int → Int} {n h t a b : Int} {z : Int × Int}
/-- what a step that is kept changes -/
def FrS (t : Int) (j : Int) (M M' : Mem) : Prop := ∀ c k, ¬ (c = 104 ∧ (k = 20 ∨ k = 21)) → ¬ (c = 117 ∧ k = t) → ¬ ((c = 118 ∨ c = 119) ∧ k = 20 * t + j) → M' c k = M c k
theorem scF_e {j : Nat} : scF x n h a j = (if skK x n a j = -1 then a + 3 * j else if isD (byt x n (a + 3 * j + 1)) = true ∧ (if skK x n a j = 0 then 1 ≤ skA x n a j else skA x n a j < h ∧ (tb (hsF x n a j) (skA x n a j) = true ↔ skK x n a j = 2)) then -1 else a + 3 * j + 1) := rfl
theorem s_148 {j : Nat} (hT : TR x n t M) (t0 : 0 ≤ t) (t1 : t < 8) (hn : n ≤ 60) (hh0 : 0 ≤ h) (hh : h ≤ 6) (h9 : 9 ≤ a) (ha : a ≤ 60) (hth : M 104 0 = h) (e21 : M 104 21 = -1) (e20 : M 104 20 = a + 3 * j) (e117 : M 117 t = j) (hk : ∀ i : Nat, i < j → scF x n h a i = -1)
    (hQ1 : scF x n h a j = -1 → ∀ M', M' 104 21 = -1 → M' 104 20 = a + 3 * j + 2 → M' 117 t = (j : Int) + 1 → M' 118 (20 * t + j) = skK x n a j → M' 119 (20 * t + j) = skA x n a j → FrS t j M M' → Q (some (vI (hsF x n a (j + 1)))) M')
    (hQ2 : ¬ scF x n h a j = -1 → ∀ M' v, M' 104 21 = scF x n h a j → 0 ≤ M' 104 20 → M' 104 20 ≤ 1000 → Fr2 M M' → Q (some (vI v)) M') : Mq sx L K0 R0 148 [vR 106, vI (hsF x n a j)] M Q := by
  have hj := kb_le h9 hn hk
  have hB := hs_B (by omega) hh j hk
  rw [scF_e] at hQ1 hQ2
  have eK : skK x n a j = kdB (byt x n (a + 3 * j)) := rfl
  have eA : skA x n a j = byt x n (a + 3 * j + 1) - 48 := rfl
  -- behind the look at the letter
  have four : ∀ y x2, y = skK x n a j → (y = -1 ∨ y = 0 ∨ y = 1 ∨ y = 2) → Rn sx L K0 R0 148 4 [vR 106, vI (hsF x n a j), vI x2, vU, vU, vU, vU] [vI y] M Q := by
    intro y x2 hy hr
    refine b_148_4 ⟨fun q => b_148_5 ?_, fun q => ?_⟩
    · rw [hy] at q
      rw [if_neg q] at hQ1 hQ2
      have F1 : Fr2 M (mset M 104 20 (M 104 20 + 1)) := Fr2.rfl'.set (by omega)
      have g20 : mset M 104 20 (M 104 20 + 1) 104 20 = a + 3 * j + 1 := by rw [ms_eq]; omega
      have g21 : mset M 104 20 (M 104 20 + 1) 104 21 = -1 := by rw [ms_k (by omega)]; exact e21
      have T1 := hT.fr F1
      refine ⟨⟨by omega, by omega⟩, ?_⟩
      rw [g20]
      generalize mset M 104 20 (M 104 20 + 1) = M1 at F1 g20 g21 T1 ⊢
      have h0' : M1 104 0 = h := by rw [F1 _ _ (by omega)]; exact hth
      have x117 : M1 117 t = j := by rw [F1 _ _ (by omega)]; exact e117
      -- keep it
      have keep : ∀ (M2 : Mem), Fr2 M M2 → M2 104 21 = -1 → M2 104 20 = a + 3 * j + 2 → isD (byt x n (a + 3 * j + 1)) = true → (if skK x n a j = 0 then 1 ≤ skA x n a j else skA x n a j < h ∧ (tb (hsF x n a j) (skA x n a j) = true ↔ skK x n a j = 2)) → Rn sx L K0 R0 148 14 [vR 106, vI (hsF x n a j), vI x2, vI y, vI (a + 3 * j + 1), vI (skA x n a j), vU] [] M2 Q := by
        intro M2 f k21 k20 d g
        rw [if_pos ⟨d, g⟩] at hQ1
        have dd := isD_iff.mp d
        have k19 : M2 104 19 = t := by rw [f _ _ (by omega)]; exact hT.1
        have k117 : M2 117 t = j := by rw [f _ _ (by omega)]; exact e117
        have q1 := hQ1 rfl
        refine b_148_14 ⟨fun _ => b_148_15 ?_, fun w => absurd k21 w⟩
        have w19 : ∀ v w, mset (mset M2 118 (20 * t + j) v) 119 (20 * t + j) w 104 19 = t := fun v w => by rw [ms_c (by omega), ms_c (by omega)]; exact k19
        have w117 : ∀ v w, mset (mset M2 118 (20 * t + j) v) 119 (20 * t + j) w 117 t = j := fun v w => by rw [ms_c (by omega), ms_c (by omega)]; exact k117
        rw [k19, k117, w19, w117]
        have fin : ∀ v, v = hsF x n a (j + 1) → Rn sx L K0 R0 148 18 [vR 106, vI (hsF x n a j), vI x2, vI y, vI (a + 3 * j + 1), vI (skA x n a j), vI (20 * t + j)] [vI v] (mset (mset (mset M2 118 (20 * t + j) y) 119 (20 * t + j) (skA x n a j)) 117 t (j + 1)) Q := by
          intro v hv
          rw [hv]
          refine b_148_18 (q1 _ ?_ ?_ ms_eq ?_ ?_ fun c k y1 y2 y3 => ?_)
          · rw [ms_c (by omega), ms_c (by omega), ms_c (by omega)]; exact k21
          · rw [ms_c (by omega), ms_c (by omega), ms_c (by omega)]; exact k20
          · rw [ms_c (by omega), ms_c (by omega), ms_eq]; exact hy
          · rw [ms_c (by omega), ms_eq]
          · rw [ms_ne y2, ms_ne (by omega), ms_ne (by omega)]; exact f c k y1
        refine ⟨⟨by omega, by omega⟩, ⟨t0, t1⟩, ⟨by omega, by omega⟩, ⟨by omega, by omega⟩, ⟨by omega, by omega⟩, ⟨t0, t1⟩, ⟨by omega, by omega⟩, ⟨t0, t1⟩, fun w => b_148_16 ⟨fun w2 => b_148_17 ⟨pow30 (by omega) (by omega), fin _ ?_⟩, fun w2 => ⟨pow30 (by omega) (by omega), fin _ ?_⟩⟩, fun w => fin _ ?_⟩
        · simp only [hsF]; rw [if_neg (by omega), if_pos (by omega)]; rfl
        · simp only [hsF]; rw [if_neg (by omega), if_neg (by omega)]
        · simp only [hsF]; rw [if_pos (by omega)]
      -- it cannot be
      have bad : ∀ (M2 : Mem) v, Fr2 M M2 → M2 104 21 = a + 3 * j + 1 → 0 ≤ M2 104 20 → M2 104 20 ≤ 1000 → ¬ (isD (byt x n (a + 3 * j + 1)) = true ∧ (if skK x n a j = 0 then 1 ≤ skA x n a j else skA x n a j < h ∧ (tb (hsF x n a j) (skA x n a j) = true ↔ skK x n a j = 2))) → Rn sx L K0 R0 148 14 [vR 106, vI (hsF x n a j), vI x2, vI y, vI (a + 3 * j + 1), vI v, vU] [] M2 Q := by
        intro M2 v f k21 k0 k1 g
        rw [if_neg g] at hQ2
        exact b_148_14 ⟨fun w => by omega, fun _ => hQ2 (by omega) M2 _ k21 k0 k1 f⟩
      by_cases y0 : skK x n a j = 0
      · have yy : y = 0 := by omega
        refine ⟨fun w => absurd yy w, fun _ => b_148_7 ⟨fun w => absurd yy w, fun _ => b_148_9 (s_147b (a := a + 3 * j + 1) T1 t0 t1 hn g21 g20 (by omega) (by omega) (fun d d1 d2 M2 f2 k21 k20 => ⟨_, rfl, fun w => absurd k21 w, fun _ => ⟨fun _ => ?_, fun w => absurd yy w⟩⟩) (fun g M2 v f2 k21 k0 k1 v0 v1 => ⟨_, rfl, fun _ => ?_, fun w => absurd k21 (by omega)⟩))⟩⟩
        · exact keep M2 (fun c k q => (f2 c k q).trans (F1 c k q)) k21 (by omega) d (by rw [if_pos y0]; omega)
        · refine bad M2 v (fun c k q => (f2 c k q).trans (F1 c k q)) k21 k0 (by omega) (fun w => g ⟨w.1, ?_⟩)
          have w2 := w.2
          rw [if_pos y0] at w2
          have := isD_iff.mp w.1
          omega
      · have yy : ¬ y = 0 := by omega
        refine ⟨fun _ => b_148_6 (b_148_7 ⟨fun _ => b_148_8 ?_, fun w => absurd yy w⟩), fun w => absurd yy w⟩
        rw [h0']
        refine ⟨⟨by omega, by omega⟩, b_148_9 (s_147b (a := a + 3 * j + 1) T1 t0 t1 hn g21 g20 (by omega) (by omega) (fun d d1 d2 M2 f2 k21 k20 => ⟨_, rfl, fun w => absurd k21 w, fun _ => ⟨fun w => absurd w yy, fun _ => ⟨⟨hB.1, by omega, by omega⟩, ?_⟩⟩⟩) (fun g M2 v f2 k21 k0 k1 v0 v1 => ⟨_, rfl, fun _ => ?_, fun w => absurd k21 (by omega)⟩))⟩
        · have f3 : Fr2 M M2 := fun c k q => (f2 c k q).trans (F1 c k q)
          have ok : (tb (hsF x n a j) (skA x n a j) = true ↔ skK x n a j = 2) → Rn sx L K0 R0 148 14 [vR 106, vI (hsF x n a j), vI x2, vI y, vI (a + 3 * j + 1), vI (skA x n a j), vU] [] M2 Q := fun w => keep M2 f3 k21 (by omega) d (by rw [if_neg y0]; exact ⟨by omega, w⟩)
          have no : ¬ (tb (hsF x n a j) (skA x n a j) = true ↔ skK x n a j = 2) → Rn sx L K0 R0 148 14 [vR 106, vI (hsF x n a j), vI x2, vI y, vI (a + 3 * j + 1), vI (skA x n a j), vU] [] (mset M2 104 21 (a + 3 * j + 1)) Q := fun w => bad _ _ (f3.set (by omega)) ms_eq (by rw [ms_k (by omega)]; omega) (by rw [ms_k (by omega)]; omega) (by rw [if_neg y0]; exact fun v => w v.2.2)
          have el : ∀ y0 : Int, (y0 = 1 ↔ tb (hsF x n a j) (skA x n a j) = true) → (y0 = 0 ∨ y0 = 1) → Rn sx L K0 R0 148 11 [vR 106, vI (hsF x n a j), vI x2, vI y, vI (a + 3 * j + 1), vI (skA x n a j), vU] [vI y0] M2 Q := by
            intro y1 hy1 r1
            refine b_148_11 ⟨fun w => b_148_12 (b_148_13 ⟨fun v => ok ⟨fun u => ?_, fun u => ?_⟩, fun v => no (fun u => ?_)⟩), fun w => b_148_13 ⟨fun v => ok ⟨fun u => ?_, fun u => ?_⟩, fun v => no (fun u => ?_)⟩⟩
            · have := hy1.mpr u; omega
            · omega
            · have := u.mp (hy1.mp (by omega)); omega
            · omega
            · exact hy1.mp v
            · have := hy1.mpr (u.mpr (by omega)); omega
          refine ⟨fun w => b_148_10 (el 0 ⟨fun v => by omega, fun v => ?_⟩ (Or.inl rfl)), fun w => el 1 ⟨fun _ => ?_, fun _ => rfl⟩ (Or.inr rfl)⟩
          · rw [bt_1 hB] at w; exact absurd v w
          · have w' := Decidable.not_not.mp w
            rw [bt_1 hB] at w'
            exact w'
        · refine bad M2 v (fun c k q => (f2 c k q).trans (F1 c k q)) k21 k0 (by omega) (fun w => g ⟨w.1, ?_⟩)
          have w2 := w.2
          rw [if_neg y0] at w2
          have := isD_iff.mp w.1
          omega
    · have q' := Decidable.not_not.mp q
      rw [hy] at q'
      rw [if_pos q'] at hQ2
      refine hQ2 (by omega) _ _ ?_ ?_ ?_ (Fr2.rfl'.set (by omega))
      · rw [ms_eq]; exact e20
      · rw [ms_k (by omega)]; omega
      · rw [ms_k (by omega)]; omega
  refine m_148 (b_148_0 (s_145 hT t0 t1 hn (by omega) ⟨_, rfl, ?_⟩))
  rw [e20]
  refine ⟨fun q1 => b_148_1 ⟨fun q2 => b_148_2 ⟨fun q3 => b_148_3 (four (-1) _ ?_ (by omega)), fun q3 => four 2 _ ?_ (by omega)⟩, fun q2 => four 1 _ ?_ (by omega)⟩, fun q1 => four 0 _ ?_ (by omega)⟩
  · rw [eK]; unfold kdB; rw [if_neg q1, if_neg q2, if_neg q3]
  · rw [eK]; unfold kdB; rw [if_neg q1, if_neg q2, if_pos (by omega)]
  · rw [eK]; unfold kdB; rw [if_neg q1, if_pos (by omega)]
  · rw [eK]; unfold kdB; rw [if_pos (by omega)]
theorem s_151 {k : Nat} (t0 : 0 ≤ t) (t1 : t < 8) (hk : k ≤ 20) (e : M 117 t = k) (ha : ∀ j : Int, 0 ≤ j → j < k → 0 ≤ M 119 (20 * t + j) ∧ M 119 (20 * t + j) ≤ 9) (hQ : Q (some (vI (sumI k fun j => if M 118 (20 * t + j) = 0 then M 119 (20 * t + j) else 0))) M) : Mq sx L K0 R0 151 [vR 106, vI t] M Q := by
  refine m_151 (b_151_0 (lpI (N := (k : Int)) (G := fun i => Rn sx L K0 R0 151 1 [vR 106, vI t, vI (sumI i.toNat fun j => if M 118 (20 * t + j) = 0 then M 119 (20 * t + j) else 0), vI i] [] M Q) (fun i i0 i1 ih => ?_) (b_151_1 ⟨⟨t0, t1⟩, fun _ => b_151_4 hQ, fun q => absurd (by omega) q⟩) 0 (by omega) (by omega)))
  rw [sumI_s i0] at ih
  have hs := sumI_0 (n := i.toNat) (f := fun j => if M 118 (20 * t + j) = 0 then M 119 (20 * t + j) else 0) (b := 9) (fun j a b => by have := ha j a (by omega); split <;> omega)
  generalize (sumI i.toNat fun j => if M 118 (20 * t + j) = 0 then M 119 (20 * t + j) else 0) = sm at hs ih ⊢
  have hai := ha i i0 i1
  refine b_151_1 ⟨⟨t0, t1⟩, fun q => absurd q (by omega), fun _ => ⟨⟨by omega, by omega⟩, ⟨by omega, by omega⟩, ⟨by omega, by omega⟩, fun q => b_151_2 (b_151_3 ⟨⟨by omega, by omega⟩, ⟨by omega, by omega⟩, ?_⟩), fun q => ⟨⟨by omega, by omega⟩, ⟨by omega, by omega⟩, ⟨by omega, by omega⟩, b_151_3 ⟨⟨by omega, by omega⟩, ⟨by omega, by omega⟩, ?_⟩⟩⟩⟩
  · rw [if_neg q] at ih; exact ih
  · rw [if_pos (by omega)] at ih; exact ih
end
