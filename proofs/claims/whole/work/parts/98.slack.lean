/-! slack: the class -/
section
variable {sx : Int → Int} {L : Nat} {M V P P' : Mem} {Q : Option AV → Mem → Prop} {SR : (Mem → Prop) × (Mem → Prop)}
/-- parameters out of what is told, one work step of one task longer -/
def PK (M : Mem) (t j k : Int) : Mem := mset (mset (mset (PTm M) 104 30 t) 104 31 j) 104 32 k
theorem PD0.cg (h : PD0 P M) (f : ∀ c k, ¬ (c = 104 ∧ 26 ≤ k) → ¬ (c = 121 ∨ c = 122) → P' c k = P c k) : PD0 P' M := by
  obtain ⟨h1, h2, h3, h4, h5, h6⟩ := h
  have p0 : P' 104 0 = P 104 0 := f _ _ (by omega) (by omega)
  refine ⟨by rw [p0]; exact h1, by rw [fir_cg p0 fun h _ _ => f 105 h (by omega) (by omega)]; exact h2, fun i p q => ?_, by rw [f 104 24 (by omega) (by omega)]; exact h4, by rw [f 104 25 (by omega) (by omega)]; exact h5, fun t a b => ?_⟩
  · rw [f 106 i (by omega) (by omega), f 107 i (by omega) (by omega), f 108 i (by omega) (by omega)]
    exact h3 i p q
  · obtain ⟨⟨q1, q2, q3, q4, q5⟩, q6⟩ := h6 t a b
    refine ⟨⟨by rw [f 114 t (by omega) (by omega)]; exact q1, by rw [f 115 t (by omega) (by omega)]; exact q2, by rw [f 116 t (by omega) (by omega)]; exact q3, by rw [f 117 t (by omega) (by omega)]; exact q4, fun i hi => ?_⟩, by rw [f 111 t (by omega) (by omega)]; exact q6⟩
    rw [f 118 _ (by omega) (by omega), f 119 _ (by omega) (by omega)]
    exact q5 i hi
/-- a setting that is as told, but for what is longer -/
def TrS (M V : Mem) (t j : Int) : Prop := BFr M V ∧ (∀ k, (k = 0 ∨ 4 ≤ k ∧ k ≤ 7) → V 97 k = M 6 k) ∧ (∀ i, 0 ≤ i → i < 8 → V 98 i = M 7 i ∧ V 99 i = M 8 i ∧ V 100 i = M 9 i) ∧ V 97 8 = t ∧ V 97 9 = j
theorem PK_ok {t j k : Int} (hb : BASE M) (hV : TrS M V t j) (hk : V 97 10 = k) (k0 : 0 ≤ k) (k1 : k ≤ 21) : PDs (PK M t j k) V 97 := by
  obtain ⟨v1, v2, v3, v4, v5⟩ := hV
  have p := PTm_ok hb
  obtain ⟨q0, q1, q2, q3, q4, q5, q6, q7, q8, q9, q10⟩ := p
  have f : ∀ c i, ¬ (c = 104 ∧ 30 ≤ i ∧ i ≤ 32) → PK M t j k c i = PTm M c i := fun c i q => by
    unfold PK
    rw [ms_ne (by omega), ms_ne (by omega), ms_ne (by omega)]
  have e32 : PK M t j k 104 32 = k := ms_eq
  have e31 : PK M t j k 104 31 = j := by
    unfold PK
    rw [ms_k (by omega), ms_eq]
  have e30 : PK M t j k 104 30 = t := by
    unfold PK
    rw [ms_k (by omega), ms_k (by omega), ms_eq]
  obtain ⟨s1, s2, s3, s4, s5, s6, s7⟩ := q1
  refine ⟨(q0.fr v1).cg fun c i a _ => f c i (by omega), ⟨?_, ?_, ?_, ?_, fun i i0 i1 => ?_, by rw [e30]; exact v4, fun _ => ⟨by rw [e31]; exact v5, by rw [e32]; exact hk⟩⟩, fun i a b c => ?_, ?_, ?_, ?_, ?_, ?_, by rw [e32]; exact k0, by rw [e32]; exact k1, fun i a b => ?_⟩
  · rw [v2 0 (by omega), f _ _ (by omega)]; exact s1
  · rw [v2 4 (by omega), f _ _ (by omega)]; exact s2
  · rw [v2 5 (by omega), f _ _ (by omega)]; exact s3
  · rw [v2 6 (by omega), f _ _ (by omega)]; exact s4
  · obtain ⟨x1, x2, x3⟩ := v3 i i0 i1
    have s := s5 i i0 i1
    rw [f 121 i (by omega), f 122 i (by omega), show (97 : Nat) + 1 = 98 from rfl, show (97 : Nat) + 3 = 100 from rfl, x1, x3]
    exact s
  · rw [v1.are]
    rw [f _ _ (by omega)] at c
    exact q2 i a b c
  · rw [f _ _ (by omega)]; exact q3
  · rw [f _ _ (by omega)]; exact q4
  · rw [f _ _ (by omega)]; exact q5
  · rw [f _ _ (by omega)]; exact q6
  · rw [f _ _ (by omega)]; exact q7
  · rw [f _ _ (by omega), f _ _ (by omega)]; exact q10 i a b
abbrev lateK (M : Mem) (t j k : Int) : Prop := 0 < ltA (PK M t j k) (rnF (PK M t j k) s00 (M 104 25).toNat) (M 104 25)
theorem s_62 {t j : Int} (hb : BASE M) (hQ : ∀ r M', TrF M M' → ((∃ k, 0 ≤ k ∧ k ≤ 20 ∧ (∀ i, 0 ≤ i → i < k → ¬ lateK M t j i) ∧ lateK M t j k ∧ r = k - 1) ∨ (∀ i, 0 ≤ i → i ≤ 20 → ¬ lateK M t j i) ∧ r = 20) → Q (some (vI r)) M') : Mq sx L K0 R0 62 [vR 76, vI t, vI j] M Q := by
  obtain ⟨e1, e2, e3, e4, e5, e6, e7, e8, e9, e10, e11, e12, e13⟩ := hb.2.2.2.2.1
  refine m_62 (b_62_0 (s_75 fun M0 as f0 => ⟨rfl, ?_⟩))
  refine lpM (N := 21) (I := fun k M1 => TrF M M1 ∧ TrS M M1 t j ∧ ∀ i, 0 ≤ i → i < k → ¬ lateK M t j i) (G := fun k M1 => Rn sx L K0 R0 62 1 [vR 76, vI t, vI j, vI k] [] M1 Q) (fun k M1 k0 k1 hI ih => ?_) (fun M1 hI => b_62_1 ⟨fun _ => b_62_3 (hQ _ M1 hI.1 (Or.inr ⟨fun i a b => hI.2.2 i a (by omega), rfl⟩)), fun q => absurd (by omega) q⟩) 0 _ (by omega) (by omega) ⟨?_, ?_, fun i a b => by omega⟩
  · obtain ⟨i1, i2, i3⟩ := hI
    have fk : TrF M1 (mset M1 97 10 k) := fun c i q => ms_c (by omega)
    have i2' : TrS M (mset M1 97 10 k) t j := by
      obtain ⟨v1, v2, v3, v4, v5⟩ := i2
      exact ⟨v1.tr fk.bf, fun i hi => by rw [ms_k (by omega)]; exact v2 i hi, fun i a b => by rw [ms_c (by omega), ms_c (by omega), ms_c (by omega)]; exact v3 i a b, by rw [ms_k (by omega)]; exact v4, by rw [ms_k (by omega)]; exact v5⟩
    have pk := PK_ok (k := k) hb i2' ms_eq k0 (by omega)
    have l97 : mset M1 97 10 k 97 7 = M 104 25 := by rw [i2'.2.1 7 (by omega), e12]
    refine b_62_1 ⟨fun q => absurd q (by omega), fun _ => ?_⟩
    rw [l97]
    refine s_36all (B := 75) (S := 97) (Or.inr rfl) (Or.inr rfl) (hb.fr i2'.1) pk (by omega) e11 fun M2 g f2 => ⟨rfl, fun q => ?_, fun q => ⟨⟨by omega, by omega⟩, hQ _ M2 ((i1.tr fk).tr f2.trf) (Or.inl ⟨k, k0, by omega, i3, ?_, rfl⟩)⟩⟩
    · have gg := g _ _ pk s00_ok
      have nl : ¬ lateK M t j k := fun w => by
        have := gg.2.1.mpr w
        omega
      refine b_62_2 ⟨⟨by omega, by omega⟩, ih M2 ⟨(i1.tr fk).tr f2.trf, ?_, fun i a b => ?_⟩⟩
      · obtain ⟨v1, v2, v3, v4, v5⟩ := i2'
        have o : ∀ c i, 97 ≤ c → c ≤ 100 → M2 c i = mset M1 97 10 k c i := fun c i p q => f2 c i (by unfold outB; omega)
        exact ⟨v1.tr f2.trf.bf, fun i hi => by rw [o _ _ (by omega) (by omega)]; exact v2 i hi, fun i a b => by rw [o _ _ (by omega) (by omega), o _ _ (by omega) (by omega), o _ _ (by omega) (by omega)]; exact v3 i a b, by rw [o _ _ (by omega) (by omega)]; exact v4, by rw [o _ _ (by omega) (by omega)]; exact v5⟩
      · by_cases e : i = k
        · rw [e]; exact nl
        · exact i3 i a (by omega)
    · have gg := g _ _ pk s00_ok
      exact gg.2.1.mp (by rcases gg.1 with z | z; exact absurd z q; exact z)
  · exact fun c i q => by rw [ms_c (by omega), ms_c (by omega)]; exact f0 c i (by omega)
  · refine ⟨fun c i q => by rw [ms_c (by unfold baseC at q; omega), ms_c (by unfold baseC at q; omega)]; exact f0 c i (by unfold baseC at q; omega), fun i hi => by rw [ms_k (by omega), ms_k (by omega)]; exact as.1 i (by omega), fun i a b => by rw [ms_c (by omega), ms_c (by omega), ms_c (by omega), ms_c (by omega), ms_c (by omega), ms_c (by omega)]; exact as.2 i a b, by rw [ms_k (by omega), ms_eq], ms_eq⟩
end
