/-! the class reads a text -/
section
variable {sx : Int → Int} {L : Nat} {M : Mem} {Q : Option AV → Mem → Prop} {x : Int → Int} {n h a : Int} {z : Int × Int} {c : Nat}
def TC (x : Int → Int) (n : Int) (M : Mem) (c : Nat) : Prop := M c 1 = n ∧ ∀ j, 0 ≤ j → j < n → M (c + 1) j = x j
def CZ (z : Int × Int) (M : Mem) (c : Nat) : Prop := M c 3 = z.1 ∧ (z.1 = -1 → M c 2 = z.2)
def Fp2 (c : Nat) (M M' : Mem) : Prop := ∀ c' k, ¬ (c' = c ∧ (k = 2 ∨ k = 3)) → M' c' k = M c' k
theorem Fp2.rfl' : Fp2 c M M := fun _ _ _ => rfl
theorem Fp2.tr {M1 M2 : Mem} (f : Fp2 c M M1) (g : Fp2 c M1 M2) : Fp2 c M M2 := fun c' k q => (g c' k q).trans (f c' k q)
theorem Fp2.set {M1 : Mem} {k v : Int} (f : Fp2 c M M1) (hk : k = 2 ∨ k = 3) : Fp2 c M (mset M1 c k v) := fun c' k' q => by
  rw [ms_ne (fun e => q ⟨e.1, by omega⟩), f c' k' q]
theorem TC.fr {M' : Mem} (hT : TC x n M c) (f : Fp2 c M M') : TC x n M' c := ⟨by rw [f _ _ (by omega)]; exact hT.1, fun j a b => by rw [f _ _ (by omega)]; exact hT.2 j a b⟩
theorem s_17 (hc : isPl c) (hT : TC x n M c) (hn : n ≤ 60) (a0 : 0 ≤ a) (hQ : Q (some (vI (byt x n a))) M) : Mq sx L K0 R0 17 [vR (c + 2), vI a] M Q := by
  obtain ⟨h1, h2⟩ := hT
  unfold byt at hQ
  refine m_17 (b_17_0 hc ?_)
  rw [h1]
  refine ⟨fun q => absurd q (by omega), fun _ => ⟨fun q => b_17_1 hc (b_17_2 hc ?_), fun q => ⟨fun q => absurd q (by omega), fun _ => ⟨⟨a0, by omega⟩, b_17_2 hc ?_⟩⟩⟩⟩
  · rw [if_neg (by omega)] at hQ; exact hQ
  · rw [if_pos (by omega)] at hQ
    rw [h2 a a0 (by omega)]; exact hQ
theorem s_18 (hc : isPl c) (hT : TC x n M c) (hn : n ≤ 60) (a0 : 0 ≤ a) (hQ : Q (some (vI (if isD (byt x n a) = true then byt x n a - 48 else -1))) M) : Mq sx L K0 R0 18 [vR (c + 2), vI a] M Q := by
  refine m_18 (b_18_0 hc (s_17 hc hT hn a0 ⟨_, rfl, fun q => b_18_1 hc (b_18_2 hc ?_), fun q => ⟨fun q2 => b_18_1 hc (b_18_2 hc ?_), fun q2 => ⟨⟨by omega, by omega⟩, b_18_2 hc ?_⟩⟩⟩))
  · rw [if_neg (by rw [isD_iff]; omega)] at hQ; exact hQ
  · rw [if_neg (by rw [isD_iff]; omega)] at hQ; exact hQ
  · rw [if_pos (by rw [isD_iff]; omega)] at hQ; exact hQ
theorem s_19 {s : Int} (hc : isPl c) (hT : TC x n M c) (hn : n ≤ 60) (hz : CZ z M c) (hZ : ZB n z) (hQ : ∀ M', CZ (exP x n s z) M' c → Fp2 c M M' → Q none M') : Mq sx L K0 R0 19 [vR (c + 2), vI s] M Q := by
  obtain ⟨z1, z2⟩ := hz
  unfold exP at hQ
  refine m_19 (b_19_0 hc ?_)
  rw [z1]
  refine ⟨fun q => b_19_1 hc ?_, fun q => ?_⟩
  · have e2 := z2 q
    rw [e2]
    rw [if_pos q] at hQ
    have z0 := hZ.2.2.1
    have zn := hZ.2.2.2
    refine s_17 hc hT hn hZ.2.2.1 ⟨_, rfl, fun w => b_19_2 hc (b_19_3 hc ?_), fun w => ?_⟩
    · rw [if_neg w] at hQ
      refine hQ _ ⟨?_, fun v => ?_⟩ (Fp2.rfl'.set (by omega))
      · rw [ms_eq]; exact e2
      · dsimp only at v; omega
    · rw [if_pos (by omega)] at hQ
      rw [e2]
      refine ⟨⟨by omega, by omega⟩, b_19_3 hc (hQ _ ⟨?_, fun _ => ms_eq⟩ (Fp2.rfl'.set (by omega)))⟩
      rw [ms_k (by omega), z1]; exact q
  · rw [if_neg q] at hQ
    exact hQ M ⟨z1, z2⟩ Fp2.rfl'
theorem s_20 {s lo hi : Int} (hs : 0 ≤ s) (hc : isPl c) (hT : TC x n M c) (hn : n ≤ 60) (hz : CZ z M c) (hZ : ZB n z) (hQ : ∀ M', CZ (nuP x n lo hi (exP x n s z)) M' c → Fp2 c M M' → Q (some (vI (nuW x n (exP x n s z)))) M') : Mq sx L K0 R0 20 [vR (c + 2), vI s, vI lo, vI hi] M Q := by
  have hZ1 := exP_B (x := x) (c := s) hs hZ
  refine m_20 (b_20_0 hc (s_19 hc hT hn hz hZ fun M1 Z1 f1 => ⟨rfl, ?_⟩))
  have T1 := hT.fr f1
  generalize exP x n s z = y at hQ hZ1 Z1
  obtain ⟨y1, y2⟩ := Z1
  unfold nuP nuW at hQ
  rw [y1]
  refine ⟨fun q => b_20_1 hc ?_, fun q => ?_⟩
  · have e2 := y2 q
    simp only [if_pos q] at hQ
    have nb := nA_B (x := x) hZ1.2.2.1 hZ1.2.2.2
    have zz := hZ1.2.2.1
    rw [e2]
    have fin : ∀ (M2 : Mem) v a' i, Fp2 c M1 M2 → M2 c 3 = -1 → M2 c 2 = a' → nA x n y.2 = a' → nV x n y.2 = v → Rn sx L K0 R0 20 3 [vR (c + 2), vI s, vI lo, vI hi, vI y.2, vI v, vI i] [] M2 Q := by
      intro M2 v a' i f e3 e2' ea ev
      rw [ev, ea] at hQ
      have bad : (a' = y.2 ∨ v < lo ∨ hi < v) → Rn sx L K0 R0 20 4 [vR (c + 2), vI s, vI lo, vI hi, vI y.2, vI v, vI i] [] M2 Q := by
        intro w
        rw [if_pos w] at hQ
        refine b_20_4 hc (b_20_5 hc (hQ _ ⟨ms_eq, fun w => ?_⟩ ((f1.tr f).set (by omega))))
        dsimp only at w; omega
      refine b_20_3 hc ?_
      rw [e2']
      refine ⟨fun w => bad (Or.inl w), fun w => ⟨fun w2 => bad (Or.inr (Or.inl w2)), fun w2 => ⟨fun w3 => b_20_5 hc ?_, fun w3 => bad (Or.inr (Or.inr (by omega)))⟩⟩⟩
      rw [if_neg (by omega)] at hQ
      exact hQ M2 ⟨e3, fun _ => e2'⟩ (f1.tr f)
    have g3 : M1 c 3 = -1 := by rw [y1]; exact q
    refine b_20_2 hc ⟨fun w => absurd w (by omega), fun _ => ?_⟩
    rw [e2]
    refine s_18 hc T1 hn zz ⟨_, rfl, fun w => ?_, fun w => ⟨⟨by omega, by omega⟩, s_18 hc T1 hn (by omega) ⟨_, rfl, ?_⟩⟩⟩
    · have d : ¬ isD (byt x n y.2) = true := fun v => by
        rw [if_pos v] at w
        have := isD_iff.mp v
        omega
      refine fin M1 0 y.2 0 Fp2.rfl' g3 e2 ?_ ?_
      · unfold nA; rw [if_neg d]
      · unfold nV; rw [if_neg d]
    · have d : isD (byt x n y.2) = true := by
        apply Classical.byContradiction
        intro v
        rw [if_neg v] at w
        exact w rfl
      have dd := isD_iff.mp d
      have l1 := byt_lt d
      rw [e2, if_pos d]
      refine ⟨⟨by omega, by omega⟩, ⟨by omega, by omega⟩, ⟨by omega, by omega⟩, b_20_2 hc ⟨fun v => absurd v (by omega), fun _ => ?_⟩⟩
      have F2 : Fp2 c M1 (mset M1 c 2 (y.2 + 1)) := Fp2.rfl'.set (by omega)
      have k2 : mset M1 c 2 (y.2 + 1) c 2 = y.2 + 1 := ms_eq
      have k3 : mset M1 c 2 (y.2 + 1) c 3 = -1 := by rw [ms_k (by omega)]; exact g3
      have T2 := T1.fr F2
      generalize mset M1 c 2 (y.2 + 1) = M2 at F2 k2 k3 T2 ⊢
      rw [k2]
      refine s_18 hc T2 hn (by omega) ⟨_, rfl, fun v => ?_, fun v => ⟨⟨by omega, by omega⟩, s_18 hc T2 hn (by omega) ⟨_, rfl, ?_⟩⟩⟩
      · have d2 : ¬ isD (byt x n (y.2 + 1)) = true := fun u => by
          rw [if_pos u] at v
          have := isD_iff.mp u
          omega
        refine fin M2 _ (y.2 + 1) _ F2 k3 k2 ?_ ?_
        · unfold nA; rw [if_pos d, if_neg d2]
        · unfold nV; rw [if_pos d, if_neg d2]; omega
      · have d2 : isD (byt x n (y.2 + 1)) = true := by
          apply Classical.byContradiction
          intro u
          rw [if_neg u] at v
          exact v rfl
        have dd2 := isD_iff.mp d2
        have l2 := byt_lt d2
        rw [k2, if_pos d2]
        refine ⟨⟨by omega, by omega⟩, ⟨by omega, by omega⟩, ⟨by omega, by omega⟩, b_20_2 hc ⟨fun _ => fin _ _ (y.2 + 2) _ (F2.set (by omega)) (by rw [ms_k (by omega)]; exact k3) (by rw [ms_eq]; omega) ?_ ?_, fun u => absurd (by omega) u⟩⟩
        · unfold nA; rw [if_pos d, if_pos d2]
        · unfold nV; rw [if_pos d, if_pos d2]; omega
  · simp only [if_neg q] at hQ
    exact hQ M1 ⟨y1, y2⟩ f1
theorem s_22 {v : Int} (hQ : Q (some (vI (if kdB v = -1 then -1 else kdB v + 1))) M) : Mq sx L K0 R0 22 [vI v] M Q := by
  refine m_22 (b_22_0 ⟨fun q => b_22_1 ⟨fun q2 => b_22_2 ⟨fun q3 => b_22_3 (b_22_4 ?_), fun q3 => b_22_4 ?_⟩, fun q2 => ?_⟩, fun q => ?_⟩)
  · have e : kdB v = -1 := by unfold kdB; rw [if_neg q, if_neg q2, if_neg q3]
    rw [e, if_pos rfl] at hQ; exact hQ
  · have e : kdB v = 2 := by unfold kdB; rw [if_neg q, if_neg q2, if_pos (by omega)]
    rw [e, if_neg (by omega)] at hQ; exact hQ
  · have e : kdB v = 1 := by unfold kdB; rw [if_neg q, if_pos (by omega)]
    rw [e, if_neg (by omega)] at hQ; exact hQ
  · have e : kdB v = 0 := by unfold kdB; rw [if_pos (by omega)]
    rw [e, if_neg (by omega)] at hQ; exact hQ
theorem s_23 {k f b : Int} (hc : isPl c) (hk : k = 0 ∨ k = 1 ∨ k = 2) (hb : inB b) (hf : -1 ≤ f ∧ f ≤ 9) (e12 : M c 12 = b)
    (hQ : ∀ r, (r = 1 ∧ (0 ≤ f ∧ if k = 0 then 1 ≤ f else f < h ∧ (tb b f = true ↔ k = 2)) ∨ r = 0 ∧ ¬ (0 ≤ f ∧ if k = 0 then 1 ≤ f else f < h ∧ (tb b f = true ↔ k = 2))) → Q (some (vI r)) M) : Mq sx L K0 R0 23 [vR (c + 2), vI (k + 1), vI f, vI h] M Q := by
  by_cases k0 : k = 0
  · simp only [if_pos k0] at hQ
    exact m_23 (b_23_0 hc ⟨fun q => absurd (by omega) q, fun _ => ⟨fun q => b_23_1 hc (b_23_2 hc ⟨Or.inl rfl, hQ 0 (Or.inr ⟨rfl, by omega⟩)⟩), fun q => b_23_2 hc ⟨Or.inr rfl, hQ 1 (Or.inl ⟨rfl, by omega⟩)⟩⟩⟩)
  · simp only [if_neg k0] at hQ
    refine m_23 (b_23_0 hc ⟨fun _ => b_23_3 hc ⟨fun q => b_23_4 hc (hQ 0 (Or.inr ⟨rfl, by omega⟩)), fun q => ⟨fun q2 => b_23_5 hc ?_, fun q2 => b_23_4 hc (hQ 0 (Or.inr ⟨rfl, by omega⟩))⟩⟩, fun q => absurd (by omega) q⟩)
    rw [e12]
    have sev : ∀ y : Int, (y = 0 ∨ y = 1) → (y = 1 ↔ tb b f = true) → Rn sx L K0 R0 23 7 [vR (c + 2), vI (k + 1), vI f, vI h, vU] [vI y] M Q := by
      intro y hy hy1
      have nine : ∀ y1 : Int, (y1 = 0 ∨ y1 = 1) → (y1 = 1 ↔ k = 2) → Rn sx L K0 R0 23 9 [vR (c + 2), vI (k + 1), vI f, vI h, vI y] [vI y1, vI y] M Q := by
        intro y1 r1 h1
        refine b_23_9 hc ⟨fun w => b_23_10 hc (b_23_11 hc ⟨Or.inl rfl, hQ 0 (Or.inr ⟨rfl, fun v => ?_⟩)⟩), fun w => b_23_11 hc ⟨Or.inr rfl, hQ 1 (Or.inl ⟨rfl, by omega, by omega, ?_⟩)⟩⟩
        · have iff := v.2.2
          rw [← hy1, ← h1] at iff
          omega
        · rw [← hy1, ← h1]; omega
      exact b_23_7 hc ⟨fun w => b_23_8 hc (nine 0 (Or.inl rfl) ⟨fun v => by omega, fun v => by omega⟩), fun w => nine 1 (Or.inr rfl) ⟨fun _ => by omega, fun _ => rfl⟩⟩
    refine ⟨⟨hb.1, by omega, by omega⟩, fun w => b_23_6 hc (sev 0 (Or.inl rfl) ⟨fun v => by omega, fun v => ?_⟩), fun w => sev 1 (Or.inr rfl) ⟨fun _ => ?_, fun _ => rfl⟩⟩
    · rw [bt_ne hb] at w; rw [w] at v; cases v
    · rw [bt_ne hb] at w; simpa using w
/-- what keeping steps may change -/
def Fp3 (c : Nat) (M M' : Mem) : Prop := ∀ c' k, ¬ (c' = c ∧ (k = 2 ∨ k = 3 ∨ 9 ≤ k)) → ¬ c' = c + 2 → ¬ c' = c + 3 → M' c' k = M c' k
theorem Fp3.rfl' : Fp3 c M M := fun _ _ _ _ _ => rfl
theorem Fp3.tr {M1 M2 : Mem} (f : Fp3 c M M1) (g : Fp3 c M1 M2) : Fp3 c M M2 := fun c' k q r s => (g c' k q r s).trans (f c' k q r s)
theorem Fp3.set {M1 : Mem} {k v : Int} (f : Fp3 c M M1) (hk : k = 2 ∨ k = 3 ∨ 9 ≤ k) : Fp3 c M (mset M1 c k v) := fun c' k' q r s => by
  rw [ms_ne (fun e => q ⟨e.1, by omega⟩), f c' k' q r s]
theorem Fp3.setA {M1 : Mem} {c2 : Nat} {k v : Int} (f : Fp3 c M M1) (hc : c2 = c + 2 ∨ c2 = c + 3) : Fp3 c M (mset M1 c2 k v) := fun c' k' q r s => by
  rw [ms_c (by omega), f c' k' q r s]
theorem Fp2.three {M1 : Mem} (f : Fp2 c M M1) : Fp3 c M M1 := fun c' k q _ _ => f c' k (fun w => q ⟨w.1, by omega⟩)
theorem TC.fr3 {M' : Mem} (hT : TC x n M c) (f : Fp3 c M M') : TC x n M' c := ⟨by rw [f _ _ (by omega) (by omega) (by omega)]; exact hT.1, fun j a b => by rw [f _ _ (by omega) (by omega) (by omega)]; exact hT.2 j a b⟩
def StC (x : Int → Int) (n a : Int) (M : Mem) (c : Nat) (k : Nat) : Prop := M c 9 = k ∧ M c 10 = wkS x n a k ∧ M c 11 = tkS x n a k ∧ M c 12 = hsF x n a k ∧ ∀ j : Nat, j < k → M (c + 2) j = skK x n a j + 1 ∧ M (c + 3) j = skA x n a j
theorem StC.fr {M' : Mem} {k : Nat} (h : StC x n a M c k) (f : Fp2 c M M') : StC x n a M' c k := by
  obtain ⟨h1, h2, h3, h4, h5⟩ := h
  refine ⟨by rw [f _ _ (by omega)]; exact h1, by rw [f _ _ (by omega)]; exact h2, by rw [f _ _ (by omega)]; exact h3, by rw [f _ _ (by omega)]; exact h4, fun j hj => ?_⟩
  rw [f _ _ (by omega), f _ _ (by omega)]
  exact h5 j hj
theorem tkS_B {k : Nat} : inB (tkS x n a k) := mkB_B 6 _ (by omega)
theorem tkS_s {k : Nat} (h0 : 0 ≤ skA x n a k) (h1 : skK x n a k = 1 → skA x n a k < 6) : tkS x n a (k + 1) = if skK x n a k = 1 then iOr (tkS x n a k) (1 * 2 ^ (skA x n a k).toNat) else tkS x n a k := by
  have bit : ∀ y, 0 ≤ y → tb (tkS x n a (k + 1)) y = (tb (tkS x n a k) y || (decide (y < 6) && (decide (skK x n a k = 1) && decide (skA x n a k = y)))) := by
    intro y y0
    unfold tkS
    rw [tb_mkB 6 _ (by omega) y0, tb_mkB 6 _ (by omega) y0]
    simp only [exB]
    by_cases e : y < 6
    · rw [decide_eq_true (show y < ((6 : Nat) : Int) by omega), decide_eq_true e]; simp
    · rw [decide_eq_false (show ¬ y < ((6 : Nat) : Int) by omega), decide_eq_false e]; simp
  by_cases g : skK x n a k = 1
  · rw [if_pos g]
    have lt := h1 g
    refine tb_ext tkS_B.1 (or_B tkS_B (pow_B (by omega))).1 fun y y0 => ?_
    rw [bit y y0, tb_or tkS_B (pow_B (by omega)), tb_pow h0 y0, decide_eq_true g, Bool.true_and]
    by_cases e : skA x n a k = y
    · rw [decide_eq_true e, decide_eq_true (show y < 6 by omega)]; simp
    · rw [decide_eq_false e]; simp
  · rw [if_neg g]
    refine tb_ext tkS_B.1 tkS_B.1 fun y y0 => ?_
    rw [bit y y0, decide_eq_false g]
    simp
end
