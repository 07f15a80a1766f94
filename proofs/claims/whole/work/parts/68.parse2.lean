/-! the reference reads a text -/
section
variable {sx : Int → Int} {L : Nat} {M : Mem} {Q : Option AV → Mem → Prop} {x : Int → Int} {n h t b : Int} {z : Int × Int}
def RZ (z : Int × Int) (M : Mem) (b : Int) : Prop := M 104 21 = z.1 ∧ (z.1 = -1 → M 104 20 = z.2) ∧ 0 ≤ M 104 20 ∧ M 104 20 ≤ b
def TR (x : Int → Int) (n t : Int) (M : Mem) : Prop := M 104 19 = t ∧ M 109 t = n ∧ ∀ j, 0 ≤ j → j < n → M 110 (60 * t + j) = x j
def Fr2 (M M' : Mem) : Prop := ∀ c k, ¬ (c = 104 ∧ (k = 20 ∨ k = 21)) → M' c k = M c k
theorem Fr2.rfl' : Fr2 M M := fun _ _ _ => rfl
theorem Fr2.set {M1 : Mem} {k v : Int} (f : Fr2 M M1) (hk : k = 20 ∨ k = 21) : Fr2 M (mset M1 104 k v) := fun c' k' q => by
  rw [ms_ne (fun e => q ⟨e.1, by omega⟩), f c' k' q]
theorem TR.fr {M' : Mem} (hT : TR x n t M) (f : Fr2 M M') : TR x n t M' := by
  obtain ⟨h1, h2, h3⟩ := hT
  refine ⟨by rw [f _ _ (by omega)]; exact h1, by rw [f _ _ (by omega)]; exact h2, fun j a b => by rw [f _ _ (by omega)]; exact h3 j a b⟩
theorem s_145 (hT : TR x n t M) (t0 : 0 ≤ t) (t1 : t < 8) (hn : n ≤ 60) (h0 : 0 ≤ M 104 20) (hQ : Q (some (vI (byt x n (M 104 20)))) M) : Mq sx L K0 R0 145 [vR 106] M Q := by
  obtain ⟨h1, h2, h3⟩ := hT
  unfold byt at hQ
  refine m_145 (b_145_0 ?_)
  rw [h1, h2]
  refine ⟨⟨t0, t1⟩, fun q => b_145_1 (b_145_2 ?_), fun q => ⟨⟨by omega, by omega⟩, ⟨by omega, by omega⟩, ⟨by omega, by omega⟩, b_145_2 ?_⟩⟩
  · rw [if_neg (by omega)] at hQ; exact hQ
  · rw [if_pos (by omega)] at hQ
    rw [h3 _ h0 (by omega)]
    exact hQ
theorem s_146 {c : Int} (hT : TR x n t M) (t0 : 0 ≤ t) (t1 : t < 8) (hn : n ≤ 60) (hz : RZ z M b) (hb : b ≤ 1000) (hQ : ∀ M', RZ (exP x n c z) M' (b + 1) → Fr2 M M' → Q none M') : Mq sx L K0 R0 146 [vR 106, vI c] M Q := by
  obtain ⟨z1, z2, z3, z4⟩ := hz
  unfold exP at hQ
  have one : ∀ M2 : Mem, Fr2 M M2 → M2 104 20 = M 104 20 → (M2 104 21 = (if z.1 = -1 then (if byt x n z.2 = c then (-1, z.2 + 1) else (z.2, z.2)) else z).1) → Rn sx L K0 R0 146 1 [vR 106, vI c] [] M2 Q := by
    intro M2 f e20 e21
    refine b_146_1 ?_
    rw [e20]
    refine ⟨⟨by omega, by omega⟩, hQ _ ⟨?_, fun w => ?_, ?_, ?_⟩ (f.set (by omega))⟩
    · rw [ms_k (by omega)]; exact e21
    · rw [ms_eq]
      by_cases q : z.1 = -1
      · rw [if_pos q] at w ⊢
        by_cases q2 : byt x n z.2 = c
        · rw [if_pos q2]; dsimp only; rw [z2 q]
        · rw [if_neg q2] at w; dsimp only at w; have := z2 q; omega
      · rw [if_neg q] at w; exact absurd w q
    · rw [ms_eq]; omega
    · rw [ms_eq]; omega
  refine m_146 (b_146_0 ?_)
  rw [z1]
  refine ⟨fun q => one M Fr2.rfl' rfl (by rw [if_neg q]; exact z1), fun q => ?_⟩
  have q' := Decidable.not_not.mp q
  have a := z2 q'
  refine s_145 hT t0 t1 hn z3 ⟨_, rfl, fun q2 => one M Fr2.rfl' rfl ?_, fun q2 => one _ (Fr2.rfl'.set (by omega)) (ms_k (by omega)) ?_⟩
  · rw [a] at q2
    rw [if_pos q', if_pos q2, z1]
    exact q'
  · rw [a] at q2
    rw [if_pos q', if_neg q2, ms_eq]
    exact a
theorem s_147 {lo hi : Int} (hT : TR x n t M) (t0 : 0 ≤ t) (t1 : t < 8) (hn : n ≤ 60) (hz : RZ z M b) (hb : b ≤ 1000) (hZ : ZB n z) (hQ : ∀ M', RZ (nuP x n lo hi z) M' (b + 2) → Fr2 M M' → Q (some (vI (nuW x n z))) M') : Mq sx L K0 R0 147 [vR 106, vI 2, vI lo, vI hi] M Q := by
  obtain ⟨z1, z2, z3, z4⟩ := id hz
  unfold nuP nuW at hQ
  refine m_147 (b_147_0 ?_)
  by_cases q : z.1 = -1
  · have a := z2 q
    simp only [if_pos q] at hQ
    have nb := nA_B (x := x) hZ.2.2.1 hZ.2.2.2
    rw [a]
    have fin : ∀ (M2 : Mem) (v a' : Int), Fr2 M M2 → M2 104 21 = -1 → M2 104 20 = a' → nA x n z.2 = a' → nV x n z.2 = v → Rn sx L K0 R0 147 2 [vR 106, vI 2, vI lo, vI hi, vI z.2, vI v] [] M2 Q := by
      intro M2 v a' f e21 e20 ea ev
      rw [ev, ea] at hQ
      have bad : (a' = z.2 ∨ v < lo ∨ hi < v) → Rn sx L K0 R0 147 3 [vR 106, vI 2, vI lo, vI hi, vI z.2, vI v] [] M2 Q := by
        intro w
        rw [if_pos w] at hQ
        refine b_147_3 (b_147_4 (hQ _ ⟨ms_eq, fun w => ?_, ?_, ?_⟩ (f.set (by omega))))
        · dsimp only at w; have := hZ.2.2.1; omega
        · rw [ms_k (by omega), e20]; have := hZ.2.2.1; omega
        · rw [ms_k (by omega), e20]; omega
      refine b_147_2 ?_
      rw [e21, e20]
      refine ⟨fun w => absurd rfl w, fun _ => ⟨fun w => bad (Or.inl w), fun w => s_137 fun r hr => ⟨_, rfl, fun w2 => b_147_4 ?_, fun w2 => bad (Or.inr (by omega))⟩⟩⟩
      rw [if_neg (by omega)] at hQ
      exact hQ M2 ⟨e21, fun _ => e20, by rw [e20]; have := hZ.2.2.1; omega, by rw [e20]; omega⟩ f
    have zz := hZ.2.2.1
    refine b_147_1 ?_
    rw [z1, q, a]
    refine ⟨fun w => absurd rfl w, fun _ => ⟨⟨by omega, by omega⟩, fun w => by omega, fun _ => s_145 hT t0 t1 hn z3 ⟨_, rfl, fun w => fin M 0 z.2 Fr2.rfl' (by rw [z1]; exact q) a ?_ ?_, fun w => s_145 hT t0 t1 hn z3 ⟨_, rfl, fun w2 => fin M 0 z.2 Fr2.rfl' (by rw [z1]; exact q) a ?_ ?_, fun w2 => ⟨⟨by omega, by omega⟩, s_145 hT t0 t1 hn z3 ⟨_, rfl, ?_⟩⟩⟩⟩⟩⟩
    · rw [a] at w; unfold nA; rw [if_neg (by rw [isD_iff]; omega)]
    · rw [a] at w; unfold nV; rw [if_neg (by rw [isD_iff]; omega)]
    · rw [a] at w2; unfold nA; rw [if_neg (by rw [isD_iff]; omega)]
    · rw [a] at w2; unfold nV; rw [if_neg (by rw [isD_iff]; omega)]
    · rw [a] at w w2 ⊢
      have d1 : isD (byt x n z.2) = true := isD_iff.mpr (by omega)
      have l1 := byt_lt d1
      refine ⟨⟨by omega, by omega⟩, ⟨by omega, by omega⟩, ⟨by omega, by omega⟩, b_147_1 ?_⟩
      have F1 : Fr2 M (mset M 104 20 (z.2 + 1)) := Fr2.rfl'.set (by omega)
      have e20 : mset M 104 20 (z.2 + 1) 104 20 = z.2 + 1 := ms_eq
      have e21 : mset M 104 20 (z.2 + 1) 104 21 = -1 := by rw [ms_k (by omega), z1]; exact q
      have T1 := hT.fr F1
      generalize mset M 104 20 (z.2 + 1) = M1 at F1 e20 e21 T1 ⊢
      rw [e21, e20]
      refine ⟨fun w => absurd rfl w, fun _ => ⟨⟨by omega, by omega⟩, fun w => by omega, fun _ => s_145 T1 t0 t1 hn (by omega) ⟨_, rfl, fun v => fin M1 _ (z.2 + 1) F1 e21 e20 ?_ ?_, fun v => s_145 T1 t0 t1 hn (by omega) ⟨_, rfl, fun v2 => fin M1 _ (z.2 + 1) F1 e21 e20 ?_ ?_, fun v2 => ⟨⟨by omega, by omega⟩, s_145 T1 t0 t1 hn (by omega) ⟨_, rfl, ?_⟩⟩⟩⟩⟩⟩
      · rw [e20] at v; unfold nA; rw [if_pos d1, if_neg (by rw [isD_iff]; omega)]
      · rw [e20] at v; unfold nV; rw [if_pos d1, if_neg (by rw [isD_iff]; omega)]; omega
      · rw [e20] at v2; unfold nA; rw [if_pos d1, if_neg (by rw [isD_iff]; omega)]
      · rw [e20] at v2; unfold nV; rw [if_pos d1, if_neg (by rw [isD_iff]; omega)]; omega
      · rw [e20] at v v2 ⊢
        have d2 : isD (byt x n (z.2 + 1)) = true := isD_iff.mpr (by omega)
        have l2 := byt_lt d2
        refine ⟨⟨by omega, by omega⟩, ⟨by omega, by omega⟩, ⟨by omega, by omega⟩, b_147_1 ?_⟩
        rw [ms_k (by omega), e21, ms_eq]
        refine ⟨fun w => absurd rfl w, fun _ => ⟨⟨by omega, by omega⟩, fun _ => fin _ _ (z.2 + 2) (F1.set (by omega)) (by rw [ms_k (by omega)]; exact e21) (by rw [ms_eq]; omega) ?_ ?_, fun w => absurd (by omega) w⟩⟩
        · unfold nA; rw [if_pos d1, if_pos d2]
        · unfold nV; rw [if_pos d1, if_pos d2]; omega
  · simp only [if_neg q] at hQ
    refine b_147_1 ?_
    rw [z1]
    refine ⟨fun _ => b_147_2 ?_, fun w => absurd q w⟩
    rw [z1]
    exact ⟨fun _ => b_147_4 (hQ M ⟨z1, z2, z3, by omega⟩ Fr2.rfl'), fun w => absurd q w⟩
/-- a figure -/
theorem s_147b {lo hi a : Int} (hT : TR x n t M) (t0 : 0 ≤ t) (t1 : t < 8) (hn : n ≤ 60) (e21 : M 104 21 = -1) (e20 : M 104 20 = a) (a0 : 0 ≤ a) (a1 : a ≤ 1000)
    (hQ1 : isD (byt x n a) = true → lo ≤ byt x n a - 48 → byt x n a - 48 ≤ hi → ∀ M', Fr2 M M' → M' 104 21 = -1 → M' 104 20 = a + 1 → Q (some (vI (byt x n a - 48))) M')
    (hQ2 : ¬ (isD (byt x n a) = true ∧ lo ≤ byt x n a - 48 ∧ byt x n a - 48 ≤ hi) → ∀ M' v, Fr2 M M' → M' 104 21 = a → 0 ≤ M' 104 20 → M' 104 20 ≤ a + 1 → 0 ≤ v → v ≤ 9 → Q (some (vI v)) M') : Mq sx L K0 R0 147 [vR 106, vI 1, vI lo, vI hi] M Q := by
  refine m_147 (b_147_0 ?_)
  rw [e20]
  have bad : ∀ (M2 : Mem) v, Fr2 M M2 → 0 ≤ M2 104 20 → M2 104 20 ≤ a + 1 → 0 ≤ v → v ≤ 9 → ¬ (isD (byt x n a) = true ∧ lo ≤ byt x n a - 48 ∧ byt x n a - 48 ≤ hi) → Rn sx L K0 R0 147 3 [vR 106, vI 1, vI lo, vI hi, vI a, vI v] [] M2 Q := by
    intro M2 v f g0 g1 v0 v1 w
    exact b_147_3 (b_147_4 (hQ2 w _ v (f.set (by omega)) ms_eq (by rw [ms_k (by omega)]; exact g0) (by rw [ms_k (by omega)]; exact g1) v0 v1))
  have none0 : ¬ isD (byt x n a) = true → Rn sx L K0 R0 147 2 [vR 106, vI 1, vI lo, vI hi, vI a, vI 0] [] M Q := by
    intro w
    refine b_147_2 ?_
    rw [e21, e20]
    exact ⟨fun v => absurd rfl v, fun _ => ⟨fun _ => bad M 0 Fr2.rfl' (by omega) (by omega) (by omega) (by omega) (fun v => w v.1), fun v => absurd rfl v⟩⟩
  refine b_147_1 ?_
  rw [e21, e20]
  refine ⟨fun w => absurd rfl w, fun _ => ⟨⟨by omega, by omega⟩, fun w => by omega, fun _ => s_145 hT t0 t1 hn (by omega) ⟨_, rfl, fun w => none0 ?_, fun w => s_145 hT t0 t1 hn (by omega) ⟨_, rfl, fun w2 => none0 ?_, fun w2 => ⟨⟨by omega, by omega⟩, s_145 hT t0 t1 hn (by omega) ⟨_, rfl, ?_⟩⟩⟩⟩⟩⟩
  · rw [e20] at w; rw [isD_iff]; omega
  · rw [e20] at w2; rw [isD_iff]; omega
  · rw [e20] at w w2 ⊢
    have d1 : isD (byt x n a) = true := isD_iff.mpr (by omega)
    refine ⟨⟨by omega, by omega⟩, ⟨by omega, by omega⟩, ⟨by omega, by omega⟩, b_147_1 ?_⟩
    have F1 : Fr2 M (mset M 104 20 (a + 1)) := Fr2.rfl'.set (by omega)
    have g20 : mset M 104 20 (a + 1) 104 20 = a + 1 := ms_eq
    have g21 : mset M 104 20 (a + 1) 104 21 = -1 := by rw [ms_k (by omega)]; exact e21
    generalize mset M 104 20 (a + 1) = M1 at F1 g20 g21 ⊢
    rw [g21, g20, show 10 * (0 : Int) + byt x n a - 48 = byt x n a - 48 by omega]
    refine ⟨fun w => absurd rfl w, fun _ => ⟨⟨by omega, by omega⟩, fun _ => b_147_2 ?_, fun w => absurd (by omega) w⟩⟩
    rw [g21, g20]
    refine ⟨fun w => absurd rfl w, fun _ => ⟨fun w => by omega, fun _ => s_137 fun r hr => ⟨_, rfl, fun v => b_147_4 (hQ1 d1 (by omega) (by omega) M1 F1 g21 g20), fun v => bad M1 _ F1 (by omega) (by omega) (by omega) (by omega) (fun y => by omega)⟩⟩⟩
end
