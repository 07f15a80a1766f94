/-! the reference's begins, runs -/
section
variable {sx : Int → Int} {L : Nat} {P s M : Mem} {τ : Int} {Q : Option AV → Mem → Prop}
theorem s_160 (hQ : ∀ M', IniS M' → Frm M M' → Q none M') : Mq sx L K0 R0 160 [vR 106] M Q := by
  refine m_160 (b_160_0 (lpM (N := 8) (I := fun k M' => Frm M M' ∧ ∀ t, 0 ≤ t → t < k → M' 123 t = 0 ∧ M' 124 t = 0 ∧ M' 129 t = 0 ∧ M' 130 t = 0 ∧ M' 131 t = -1) (G := fun k M' => Rn sx L K0 R0 160 1 [vR 106, vI k] [] M' Q) (fun k M' k0 k1 hI ih => ?_) (fun M' hI => b_160_1 ⟨fun _ => b_160_2 (hQ _ ⟨fun t a b => ?_, ?_, ?_⟩ ?_), fun q => absurd (by omega) q⟩) 0 M (by omega) (by omega) ⟨Frm.rfl', fun t a b => by omega⟩))
  · refine b_160_1 ⟨fun q => absurd q (by omega), fun _ => ⟨⟨k0, k1⟩, ⟨k0, k1⟩, ⟨k0, k1⟩, ⟨k0, k1⟩, ⟨k0, k1⟩, ⟨by omega, by omega⟩, ih _ ⟨?_, fun t a b => ?_⟩⟩⟩
    · exact ((((hI.1.set (runC_of (by omega))).set (runC_of (by omega))).set (runC_of (by omega))).set (runC_of (by omega))).set (runC_of (by omega))
    · by_cases e : t = k
      · subst e
        simp only [mset]
        simp
      · rw [ms_k' e, ms_k' e, ms_k' e, ms_k' e, ms_k' e, ms_k' e, ms_k' e, ms_k' e, ms_k' e, ms_k' e, ms_k' e, ms_k' e, ms_k' e, ms_k' e, ms_k' e, ms_k' e, ms_k' e, ms_k' e, ms_k' e, ms_k' e, ms_k' e, ms_k' e, ms_k' e, ms_k' e, ms_k' e]
        exact hI.2 t a (by omega)
  · rw [ms_c (by omega), ms_c (by omega), ms_c (by omega), ms_c (by omega), ms_c (by omega), ms_c (by omega), ms_c (by omega), ms_c (by omega), ms_c (by omega), ms_c (by omega)]
    exact hI.2 t a b
  · rw [ms_k (by omega), ms_eq]
  · rw [ms_eq]
  · exact (hI.1.set (Or.inr ⟨rfl, by omega⟩)).set (Or.inr ⟨rfl, by omega⟩)
theorem Frm.p {M1 : Mem} (h : Frm M M1) {c : Nat} {k : Int} (q : isP c k) : M1 c k = M c k := h c k fun r => by
  unfold isP at q
  unfold runC at r
  omega
theorem hiR_p {M1 : Mem} (h : ∀ c k, isP c k → M1 c k = P c k) (x : Int) : hiR M1 x = hiR P x := by
  have f : ∀ c, 105 ≤ c ∧ c ≤ 122 → M1 c = P c := fun c q => by funext k; exact h c k (Or.inl q)
  unfold hiR tksP
  rw [h 104 27 (Or.inr ⟨rfl, by omega⟩), f 117 (by omega), f 118 (by omega), f 119 (by omega), f 121 (by omega)]
theorem MR.tk {v : Int} (h : MR P s M τ) : MR P s (mset M 104 51 v) v := by
  obtain ⟨h1, h2, h3, h4, h5⟩ := h
  refine ⟨fun c' k' q => ?_, fun c' k' q => ?_, fun h a b => ?_, fun t j a b a2 b2 => ?_, ms_eq⟩
  · rw [ms_ne (by unfold isP at q; omega)]; exact h1 _ _ q
  · rw [ms_ne (by unfold isS at q; omega)]; exact h2 _ _ q
  · rw [ms_c (by omega)]; exact h3 h a b
  · rw [ms_c (by omega)]; exact h4 t j a b a2 b2
/-- what is noted of the states -/
def stF (z : Mem) (τ : Int) : Nat → Mem
  | 0 => z
  | n + 1 => mset (stF z τ n) 136 (200 * n + τ) (z 132 n)
theorem stF_c {z : Mem} {c : Nat} (h : ¬ c = 136) : ∀ n, stF z τ n c = z c := by
  intro n
  induction n with
  | zero => rfl
  | succ n ih => simp only [stF]; rw [ms_f h, ih]
theorem stF_k {z : Mem} (h0 : 0 ≤ τ) (h1 : τ < 200) : ∀ (n : Nat) (k : Int), stF z τ n 136 k = if 0 ≤ k ∧ k < 200 * n ∧ k % 200 = τ then z 132 (k / 200) else z 136 k := by
  intro n
  induction n with
  | zero => intro k; simp only [stF]; rw [if_neg (by omega)]
  | succ n ih =>
    intro k
    simp only [stF]
    by_cases e : k = 200 * n + τ
    · rw [e, ms_eq, if_pos (by omega), show (200 * (n : Int) + τ) / 200 = n by omega]
    · rw [ms_k e, ih]
      by_cases q : 0 ≤ k ∧ k < 200 * n ∧ k % 200 = τ
      · rw [if_pos q, if_pos (by omega)]
      · rw [if_neg q, if_neg (by omega)]
theorem stF_s {z : Mem} {k : Int} (h : 0 ≤ k) : stF z τ (k + 1).toNat = mset (stF z τ k.toNat) 136 (200 * k + τ) (z 132 k) := by
  rw [show (k + 1).toNat = k.toNat + 1 by omega]
  simp only [stF, Int.toNat_of_nonneg h]
theorem notF_eq {z y : Mem} (h0 : 0 ≤ τ) (h1 : τ < 200) (hy : y = if z 104 49 = -1 ∧ ¬ rngB (z 133) = 0 then mset (mset z 104 49 τ) 104 50 (rngB (z 133)) else z) : stF y τ 8 = notF z τ := by
  have y132 : y 132 = z 132 := by
    rw [hy]
    split
    · rw [ms_f (by omega), ms_f (by omega)]
    · rfl
  have y136 : y 136 = z 136 := by
    rw [hy]
    split
    · rw [ms_f (by omega), ms_f (by omega)]
    · rfl
  funext c k
  unfold notF
  by_cases e : c = 136
  · rw [e, stF_k h0 h1, y132, y136]
    by_cases q : 0 ≤ k ∧ k < 1600 ∧ k % 200 = τ
    · rw [if_pos (by omega), if_pos (by omega)]
    · rw [if_neg (by omega), if_neg (by omega), if_neg (by omega), if_neg (by omega)]
  · rw [stF_c e, if_neg (show ¬ (c = 136 ∧ 0 ≤ k ∧ k < 1600 ∧ k % 200 = τ) from fun q => e q.1), hy]
    by_cases g : z 104 49 = -1 ∧ ¬ rngB (z 133) = 0
    · rw [if_pos g]
      by_cases e2 : c = 104
      · rw [e2]
        by_cases e3 : k = 50
        · rw [e3, ms_eq, if_neg (by omega), if_pos ⟨rfl, rfl, g⟩]
        · rw [ms_k e3]
          by_cases e4 : k = 49
          · rw [e4, ms_eq, if_pos ⟨rfl, rfl, g⟩]
          · rw [ms_k e4, if_neg (fun q => e4 q.2.1), if_neg (fun q => e3 q.2.1)]
      · rw [ms_c e2, ms_c e2, if_neg (fun q => e2 q.1), if_neg (fun q => e2 q.1)]
    · rw [if_neg g, if_neg (fun q => g q.2.2), if_neg (fun q => g q.2.2)]
theorem MI.wki (h : MI P s τ) : WkI P 0 s := ⟨h.sv, fun t a b => (h t a b).2.2.2.1, fun t a b => (h t a b).2.2.1⟩
theorem s_178 (hp : PV P) (hPM : ∀ c k, isP c k → M c k = P c k) (hT : 1 ≤ P 104 25 ∧ P 104 25 ≤ 120)
    (hQ : ∀ s0 M', IniS s0 → MR P (rnF P s0 (P 104 25).toNat) M' (P 104 25) → Frm M M' → Q none M') : Mq sx L K0 R0 178 [vR 106] M Q := by
  refine m_178 (b_178_0 (s_160 fun M1 h1 f1 => ⟨rfl, ?_⟩))
  refine lpM (N := P 104 0) (I := fun k M' => Frm M M' ∧ (∀ c, ¬ c = 137 → M' c = M1 c) ∧ ∀ h, 0 ≤ h → h < k → M' 137 h = hiR P h) (G := fun k M' => Rn sx L K0 R0 178 1 [vR 106, vI k, vU] [] M' Q) (fun k M' k0 k1 hI ih => ?_) (fun M' hI => ?_) 0 M1 (by omega) hp.2.1 ⟨f1, fun _ _ => rfl, fun t a b => by omega⟩
  · obtain ⟨i1, i2, i3⟩ := hI
    have hP' : ∀ c k, isP c k → M' c k = P c k := fun c k q => (i1.p q).trans (hPM c k q)
    have e0 : M' 104 0 = P 104 0 := hP' 104 0 (Or.inr ⟨rfl, by omega⟩)
    have e27 : M' 104 27 = P 104 27 := hP' 104 27 (Or.inr ⟨rfl, by omega⟩)
    have hth := hp.2.2.1
    refine b_178_1 ⟨fun q => absurd q (by omega), fun _ => s_163 ⟨by rw [e27]; exact hp.1, fun t a b => ?_, fun t a b c => ?_⟩ ⟨_, rfl, ⟨k0, by omega⟩, ⟨by omega, by omega⟩, ih _ ⟨i1.set (runC_of (by omega)), fun c q => by rw [ms_f q]; exact i2 c q, fun h a b => ?_⟩⟩⟩
    · rw [hP' 121 t (Or.inl (by omega))]
      have := (hp.2.2.2.2.2.2.2.2.2.2.2.1 t a b).1
      omega
    · rw [e27] at c
      rw [hP' 117 t (Or.inl (by omega))]
      have := hp.2.2.2.2.2.2.2.2.2.2.2.2 t a b c
      exact ⟨this.2.2.2.2.2.2.1, this.2.2.2.2.2.2.2.1⟩
    · by_cases e : h = k
      · rw [e, ms_eq, hiR_p hP']
      · rw [ms_k e]; exact i3 h a (by omega)
  obtain ⟨i1, i2, i3⟩ := hI
  have hP' : ∀ c k, isP c k → M' c k = P c k := fun c k q => (i1.p q).trans (hPM c k q)
  have e0 : M' 104 0 = P 104 0 := hP' 104 0 (Or.inr ⟨rfl, by omega⟩)
  refine b_178_1 ⟨fun _ => b_178_2 ?_, fun q => absurd (by omega) q⟩
  have hs0 : IniS (mset M' 104 51 0) := by
    refine ⟨fun t a b => ?_, ?_, ?_⟩
    · rw [ms_c (by omega), ms_c (by omega), ms_c (by omega), ms_c (by omega), ms_c (by omega), i2 123 (by omega), i2 124 (by omega), i2 129 (by omega), i2 130 (by omega), i2 131 (by omega)]
      exact h1.1 t a b
    · rw [ms_k (by omega), i2 104 (by omega)]; exact h1.2.1
    · rw [ms_k (by omega), i2 104 (by omega)]; exact h1.2.2
  have hm0 : MR P (mset M' 104 51 0) (mset M' 104 51 0) 0 := by
    refine ⟨fun c k q => ?_, fun _ _ _ => rfl, fun h a b => ?_, fun t j a b c d => ?_, ms_eq⟩
    · rw [ms_ne (by unfold isP at q; omega)]; exact hP' c k q
    · rw [ms_c (by omega)]; exact i3 h a b
    · rw [(hs0.1 t a b).1] at d; omega
  have f0 : Frm M (mset M' 104 51 0) := i1.set (Or.inr ⟨rfl, by omega⟩)
  generalize mset M' 104 51 0 = s0 at hs0 hm0 f0 ⊢
  have hQ0 := hQ s0
  clear hQ i2 i3
  refine lpM (N := P 104 25) (I := fun k M' => MR P (rnF P s0 k.toNat) M' k ∧ Frm M M') (G := fun k M' => ∀ x1 u2, cat2 u2 = false → Rn sx L K0 R0 178 3 [vR 106, vI x1, u2] [] M' Q) (fun k M2 k0 k1 hI ih => ?_) (fun M2 hI x1 u2 h2 => ?_) 0 s0 (by omega) (by omega) ⟨hm0, f0⟩ _ _ rfl
  · obtain ⟨j1, j2⟩ := hI
    intro x1 u2 h2
    have hRI := rn_R hp hs0 k.toNat (by omega)
    rw [Int.toNat_of_nonneg k0] at hRI
    have ern : rnF P s0 (k + 1).toNat = tickF P (rnF P s0 k.toNat) k := by
      rw [show (k + 1).toNat = k.toNat + 1 by omega]
      simp only [rnF, Int.toNat_of_nonneg k0]
    rw [ern] at ih
    generalize rnF P s0 k.toNat = s at j1 hRI ih
    have e25 : M2 104 25 = P 104 25 := j1.m (by omega)
    have e51 : M2 104 51 = k := j1.2.2.2.2
    have mi1 := comes_MI hp k0 (by omega) hRI
    have mi2 := cho_R hp k0 (by omega) 8 0 _ mi1
    have mi3 := not_R mi2
    refine b_178_3 h2 ⟨fun q => absurd q (by omega), fun _ => s_161 j1 hRI.sv hp hRI.cv k0 (by omega) fun M3 l1 l2 l3 => ⟨rfl, s_174 l1 mi1.sv hp mi1.wv k0 (by omega) fun M4 l4 l5 => ⟨rfl, ?_⟩⟩⟩
    unfold tickF at ih
    generalize choF P k 8 0 (comesF P k 8 s) = z at ih mi2 mi3 l4
    have f4 := (j2.tr l2).tr l5
    have e49 : M4 104 49 = z 104 49 := l4.st (Or.inr (Or.inr (Or.inr (Or.inr (Or.inr ⟨rfl, Or.inl rfl⟩)))))
    have e133 : M4 133 = z 133 := l4.sf (by omega)
    -- from block 6
    have six : ∀ (y : Mem) (M5 : Mem) (x1 : Int) (u2 : AV), (y = if z 104 49 = -1 ∧ ¬ rngB (z 133) = 0 then mset (mset z 104 49 k) 104 50 (rngB (z 133)) else z) → MR P y M5 k → Frm M M5 → cat2 u2 = false → Rn sx L K0 R0 178 6 [vR 106, vI x1, u2] [] M5 Q := by
      intro y M5 x1 u2 hy n1 n2 h2
      have ne := notF_eq (z := z) (y := y) k0 (by omega) hy
      refine b_178_6 h2 (lpM (N := 8) (I := fun i M' => MR P (stF y k i.toNat) M' k ∧ Frm M M') (G := fun i M' => Rn sx L K0 R0 178 7 [vR 106, vI x1, vI i] [] M' Q) (fun i M6 i0 i1 hI ih2 => ?_) (fun M6 hI => b_178_7 ⟨fun _ => b_178_8 ?_, fun q => absurd (by omega) q⟩) 0 M5 (by omega) (by omega) ⟨n1, n2⟩)
      · have g51 : M6 104 51 = k := hI.1.2.2.2.2
        have g132 : M6 132 i = y 132 i := by rw [hI.1.sf (by omega), stF_c (by omega)]
        rw [stF_s i0] at ih2
        refine b_178_7 ⟨fun q => absurd q (by omega), fun _ => ⟨⟨by omega, by omega⟩, ⟨by omega, by omega⟩, ⟨i0, i1⟩, ⟨by omega, by omega⟩, ⟨by omega, by omega⟩, ih2 _ ?_⟩⟩
        rw [g51, g132]
        exact ⟨hI.1.set (by unfold isS; omega) (by omega), hI.2.set (runC_of (by omega))⟩
      · obtain ⟨p1, p2⟩ := hI
        rw [show (8 : Int).toNat = 8 from rfl, ne] at p1
        refine s_177 p1 hp k0 (by omega) mi3.wki fun M7 r1 r2 _ => ⟨rfl, ?_⟩
        have g51 : M7 104 51 = k := r1.2.2.2.2
        rw [g51]
        exact ⟨⟨by omega, by omega⟩, ih _ ⟨r1.tk, (p2.tr r2).set (Or.inr ⟨rfl, by omega⟩)⟩ _ _ rfl⟩
    refine ⟨fun q => b_178_4 h2 (b_178_5 h2 ⟨fun _ => six z M4 _ _ ?_ l4 f4 h2, fun q => absurd rfl q⟩), fun q => s_175 (by rw [e133]; exact mi2.wv) ⟨_, rfl, ?_⟩⟩
    · rw [if_neg (by omega)]
    · rw [e133]
      have g51 : M4 104 51 = k := l4.2.2.2.2
      refine b_178_5 h2 ⟨fun q2 => six z M4 _ _ ?_ l4 f4 h2, fun q2 => six (mset (mset z 104 49 k) 104 50 (rngB (z 133))) _ _ _ ?_ ?_ ?_ h2⟩
      · rw [if_neg (by omega)]
      · rw [if_pos (by omega)]
      · rw [g51]
        exact (l4.set (Or.inr (Or.inr (Or.inr (Or.inr (Or.inr ⟨rfl, Or.inl rfl⟩))))) (by omega)).set (Or.inr (Or.inr (Or.inr (Or.inr (Or.inr ⟨rfl, Or.inr rfl⟩))))) (by omega)
      · exact (f4.set (Or.inr ⟨rfl, by omega⟩)).set (Or.inr ⟨rfl, by omega⟩)
  · obtain ⟨j1, j2⟩ := hI
    have e25 : M2 104 25 = P 104 25 := j1.m (by omega)
    have e51 : M2 104 51 = P 104 25 := j1.2.2.2.2
    exact b_178_3 h2 ⟨fun _ => b_178_9 h2 (hQ0 M2 hs0 j1 j2), fun q => absurd (by omega) q⟩
end
