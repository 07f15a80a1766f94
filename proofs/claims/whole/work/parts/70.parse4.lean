section
variable {sx : Int → Int} {L : Nat} {M : Mem} {Q : Option AV → Mem → Prop} {x : Int → Int} {n h t a b : Int} {z : Int × Int}
/-- what is known of a text that was read -/
def RdT (x : Int → Int) (n h : Int) (M : Mem) (t : Int) : Prop := M 113 t = ftF x n h ∧ M 114 t = nuW x n (hd1 x n) ∧ M 115 t = nuW x n (hd2 x n) ∧ M 116 t = nuW x n (hd3 x n) ∧ M 117 t = stN x n h ∧ (ftF x n h = -1 → M 120 t = hsF x n (a0F x n) (stN x n h)) ∧ ∀ j : Nat, j < stN x n h → M 118 (20 * t + j) = skK x n (a0F x n) j ∧ M 119 (20 * t + j) = skA x n (a0F x n) j
def FrT (t : Int) (M M' : Mem) : Prop := ∀ c k, ¬ ((113 ≤ c ∧ c ≤ 117 ∨ c = 120) ∧ k = t) → ¬ ((c = 118 ∨ c = 119) ∧ 20 * t ≤ k ∧ k < 20 * t + 20) → ¬ (c = 104 ∧ (k = 19 ∨ k = 20 ∨ k = 21)) → M' c k = M c k
theorem FrT.rfl' : FrT t M M := fun _ _ _ _ _ => rfl
theorem FrT.tr {M1 M2 : Mem} (f : FrT t M M1) (g : FrT t M1 M2) : FrT t M M2 := fun c k a b d => (g c k a b d).trans (f c k a b d)
theorem Fr2.tt {M1 : Mem} (f : Fr2 M M1) : FrT t M M1 := fun c k _ _ d => f c k (fun w => d ⟨w.1, by omega⟩)
theorem FrS.tt {M1 : Mem} {j : Int} (f : FrS t j M M1) (j0 : 0 ≤ j) (j1 : j < 20) : FrT t M M1 := fun c k a b d => f c k (fun w => d ⟨w.1, by omega⟩) (fun w => a ⟨by omega, w.2⟩) (fun w => b ⟨w.1, by omega⟩)
theorem FrT.setA {M1 : Mem} {c : Nat} {v : Int} (f : FrT t M M1) (hc : 113 ≤ c ∧ c ≤ 117 ∨ c = 120) : FrT t M (mset M1 c t v) := fun c' k a b d => by
  rw [ms_ne (fun w => a ⟨by omega, w.2⟩)]; exact f c' k a b d
theorem FrT.setB {M1 : Mem} {k v : Int} (f : FrT t M M1) (hk : k = 19 ∨ k = 20 ∨ k = 21) : FrT t M (mset M1 104 k v) := fun c' k' a b d => by
  rw [ms_ne (fun w => d ⟨w.1, by omega⟩)]; exact f c' k' a b d
theorem TR.set {c : Nat} {v : Int} (hT : TR x n t M) (hc : 113 ≤ c ∧ c ≤ 120) : TR x n t (mset M c t v) := by
  obtain ⟨h1, h2, h3⟩ := hT
  refine ⟨by rw [ms_c (by omega)]; exact h1, by rw [ms_c (by omega)]; exact h2, fun j a b => by rw [ms_c (by omega)]; exact h3 j a b⟩
theorem RZ.set {c : Nat} {v : Int} (hz : RZ z M b) (hc : ¬ c = 104) : RZ z (mset M c t v) b := by
  unfold RZ at hz ⊢
  rw [ms_c (by omega), ms_c (by omega)]
  exact hz
def FrL (t : Int) (M M' : Mem) : Prop := ∀ c k, ¬ (c = 117 ∧ k = t) → ¬ ((c = 118 ∨ c = 119) ∧ 20 * t ≤ k ∧ k < 20 * t + 20) → ¬ (c = 104 ∧ (k = 20 ∨ k = 21)) → M' c k = M c k
theorem FrL.rfl' : FrL t M M := fun _ _ _ _ _ => rfl
theorem FrL.tr {M1 M2 : Mem} (f : FrL t M M1) (g : FrL t M1 M2) : FrL t M M2 := fun c k a b d => (g c k a b d).trans (f c k a b d)
theorem FrL.tt {M1 : Mem} (f : FrL t M M1) : FrT t M M1 := fun c k a b d => f c k (fun w => a ⟨by omega, w.2⟩) b (fun w => d ⟨w.1, by omega⟩)
theorem Fr2.l {M1 : Mem} (f : Fr2 M M1) : FrL t M M1 := fun c k _ _ d => f c k d
theorem FrS.l {M1 : Mem} {j : Int} (f : FrS t j M M1) (j0 : 0 ≤ j) (j1 : j < 20) : FrL t M M1 := fun c k a b d => f c k d a (fun w => b ⟨w.1, by omega⟩)
/-- steps that are kept -/
def StK (x : Int → Int) (n a t : Int) (M : Mem) (k : Nat) : Prop := ∀ j : Nat, j < k → M 118 (20 * t + j) = skK x n a j ∧ M 119 (20 * t + j) = skA x n a j
theorem s_149l (t0 : 0 ≤ t) (t1 : t < 8) (hn : n ≤ 60) (hh0 : 0 ≤ h) (hh : h ≤ 6) (h9 : 9 ≤ a) (ha : a ≤ 60) (M0 : Mem) (hth : M0 104 0 = h) : ∀ (m k : Nat) (M : Mem), k + m = 20 → TR x n t M → M 104 21 = -1 → M 104 20 = a + 3 * k → M 117 t = k → StK x n a t M k → (∀ i : Nat, i < k → scF x n h a i = -1) → FrL t M0 M →
    (∀ M' v, TR x n t M' → M' 117 t = (prs x n h a m k).2 → StK x n a t M' (prs x n h a m k).2 → FrL t M0 M' → ((¬ (prs x n h a m k).1 = -1 ∧ M' 104 21 = (prs x n h a m k).1) ∨ (M' 104 21 = -1 ∧ v = hsF x n a (prs x n h a m k).2 ∧ ∃ e, M' 104 20 = e ∧ 0 ≤ e ∧ (e < n ∧ (prs x n h a m k).1 = e ∨ e = n ∧ (prs x n h a m k).1 = -1))) → Rn sx L K0 R0 149 8 [vR 106, vI t, vI v, vI 0] [] M' Q) → Rn sx L K0 R0 149 3 [vR 106, vI t, vI (hsF x n a k), vI 1] [] M Q := by
  intro m
  induction m with
  | zero =>
    intro k M hk _ _ _ _ _ hs _ _
    have := kb_le h9 hn hs
    omega
  | succ m ih =>
    intro k M hk hT e21 e20 e117 hst hs hF hQ
    have hk17 := kb_le h9 hn hs
    simp only [prs] at hQ
    refine b_149_3 ⟨fun q => absurd q (by omega), fun _ => s_148 hT t0 t1 hn hh0 hh h9 ha (by rw [hF _ _ (by omega) (by omega) (by omega)]; exact hth) e21 e20 e117 hs (fun sc M2 g21 g20 g117 g118 g119 f => ⟨_, rfl, fun w => absurd g21 w, fun _ => ?_⟩) (fun sc M2 v g21 g0 g1 f => ⟨_, rfl, fun _ => ?_, fun w => absurd g21 (by omega)⟩)⟩
    · rw [if_neg (fun w => w sc)] at hQ
      have T2 : TR x n t M2 := by
        obtain ⟨h1, h2, h3⟩ := hT
        refine ⟨by rw [f _ _ (by omega) (by omega) (by omega)]; exact h1, by rw [f _ _ (by omega) (by omega) (by omega)]; exact h2, fun j a b => by rw [f _ _ (by omega) (by omega) (by omega)]; exact h3 j a b⟩
      have F2 : FrL t M0 M2 := hF.tr (f.l (by omega) (by omega))
      have st2 : StK x n a t M2 (k + 1) := by
        intro j hj
        by_cases e : j = k
        · rw [e]; exact ⟨g118, g119⟩
        · rw [f _ _ (by omega) (by omega) (by omega), f _ _ (by omega) (by omega) (by omega)]
          exact hst j (by omega)
      have g117' : M2 117 t = ((k + 1 : Nat) : Int) := by rw [g117]; omega
      have sck := sc_ok (by omega) sc
      have hs1 : ∀ i : Nat, i < k + 1 → scF x n h a i = -1 := fun i hi => by
        by_cases e : i = k
        · rw [e]; exact sc
        · exact hs i (by omega)
      refine s_145 T2 t0 t1 hn (by omega) ⟨_, rfl, ?_⟩
      rw [g20]
      refine ⟨fun w => b_149_4 (b_149_5 ⟨fun _ => b_149_6 (b_149_7 ?_), fun v => absurd rfl v⟩), fun w => b_149_5 ⟨fun v => absurd v (by omega), fun _ => b_149_7 ?_⟩⟩
      · rw [g20, Int.add_zero]
        refine ⟨⟨by omega, by omega⟩, b_149_3 ⟨fun _ => ?_, fun v => absurd rfl v⟩⟩
        have FF : Fr2 M2 (mset M2 104 20 (a + 3 * k + 2)) := Fr2.rfl'.set (by omega)
        have st3 : StK x n a t (mset M2 104 20 (a + 3 * k + 2)) (k + 1) := fun j hj => by rw [ms_c (by omega), ms_c (by omega)]; exact st2 j hj
        by_cases lt : a + 3 * (k : Int) + 2 < n
        · rw [if_pos lt, if_neg w] at hQ
          exact hQ _ _ (T2.fr FF) (by rw [ms_c (by omega)]; exact g117') st3 (F2.tr FF.l) (Or.inr ⟨by rw [ms_k (by omega)]; exact g21, rfl, _, ms_eq, by omega, Or.inl ⟨lt, rfl⟩⟩)
        · rw [if_neg lt] at hQ
          exact hQ _ _ (T2.fr FF) (by rw [ms_c (by omega)]; exact g117') st3 (F2.tr FF.l) (Or.inr ⟨by rw [ms_k (by omega)]; exact g21, rfl, _, ms_eq, by omega, Or.inr ⟨by omega, rfl⟩⟩)
      · have w' := Decidable.not_not.mp w
        have lt : a + 3 * (k : Int) + 2 < n := by
          apply Classical.byContradiction
          intro v
          unfold byt at w'
          rw [if_neg v] at w'
          omega
        rw [if_pos lt, if_pos w'] at hQ
        rw [g20]
        refine ⟨⟨by omega, by omega⟩, ?_⟩
        have FF : Fr2 M2 (mset M2 104 20 (a + 3 * k + 2 + 1)) := Fr2.rfl'.set (by omega)
        exact ih (k + 1) _ (by omega) (T2.fr FF) (by rw [ms_k (by omega)]; exact g21) (by rw [ms_eq]; omega) (by rw [ms_c (by omega)]; exact g117') (fun j hj => by rw [ms_c (by omega), ms_c (by omega)]; exact st2 j hj) hs1 (F2.tr FF.l) hQ
    · rw [if_pos sc] at hQ
      refine b_149_4 (b_149_5 ⟨fun _ => b_149_6 (b_149_7 ⟨⟨by omega, by omega⟩, b_149_3 ⟨fun _ => ?_, fun v => absurd rfl v⟩⟩), fun v => absurd rfl v⟩)
      have FF : Fr2 M (mset M2 104 20 (M2 104 20 + 0)) := f.set (by omega)
      refine hQ _ _ (hT.fr FF) ?_ ?_ (hF.tr FF.l) (Or.inl ⟨sc, ?_⟩)
      · rw [ms_c (by omega), f _ _ (by omega)]; exact e117
      · intro j hj
        rw [ms_c (by omega), ms_c (by omega), f _ _ (by omega), f _ _ (by omega)]
        exact hst j hj
      · rw [ms_k (by omega)]; exact g21
theorem s_149 (t0 : 0 ≤ t) (t1 : t < 8) (hn0 : 0 ≤ n) (hn : n ≤ 60) (hh0 : 0 ≤ h) (hh : h ≤ 6) (hth : M 104 0 = h) (e109 : M 109 t = n) (e110 : ∀ j, 0 ≤ j → j < n → M 110 (60 * t + j) = x j) (hQ : ∀ M', RdT x n h M' t → FrT t M M' → Q none M') : Mq sx L K0 R0 149 [vR 106, vI t] M Q := by
  obtain ⟨B1, B2, B3, B4⟩ := hd_B (x := x) hn0
  refine m_149 (b_149_0 ⟨⟨t0, t1⟩, ?_⟩)
  have F0 : FrT t M (mset (mset (mset (mset M 104 19 t) 104 20 0) 104 21 (-1)) 117 t 0) := (((FrT.rfl'.setB (by omega)).setB (by omega)).setB (by omega)).setA (by omega)
  have T0 : TR x n t (mset (mset (mset (mset M 104 19 t) 104 20 0) 104 21 (-1)) 117 t 0) := by
    refine ⟨?_, ?_, fun j a b => ?_⟩
    · rw [ms_c (by omega), ms_k (by omega), ms_k (by omega), ms_eq]
    · rw [ms_c (by omega), ms_c (by omega), ms_c (by omega), ms_c (by omega)]; exact e109
    · rw [ms_c (by omega), ms_c (by omega), ms_c (by omega), ms_c (by omega)]; exact e110 j a b
  have Z0 : RZ (-1, 0) (mset (mset (mset (mset M 104 19 t) 104 20 0) 104 21 (-1)) 117 t 0) 0 := by
    refine ⟨?_, fun _ => ?_, ?_, ?_⟩
    · rw [ms_c (by omega), ms_eq]
    · rw [ms_c (by omega), ms_k (by omega), ms_eq]
    · rw [ms_c (by omega), ms_k (by omega), ms_eq]; omega
    · rw [ms_c (by omega), ms_k (by omega), ms_eq]; omega
  have S0 : mset (mset (mset (mset M 104 19 t) 104 20 0) 104 21 (-1)) 117 t 0 117 t = 0 := ms_eq
  generalize mset (mset (mset (mset M 104 19 t) 104 20 0) 104 21 (-1)) 117 t 0 = M0 at F0 T0 Z0 S0 ⊢
  refine s_146 T0 t0 t1 hn Z0 (by omega) fun M1 Z1 f1 => ⟨rfl, ?_⟩
  have T1 := T0.fr f1
  refine s_147 T1 t0 t1 hn Z1 (by omega) B1 fun M2 Z2 f2 => ⟨_, rfl, ⟨t0, t1⟩, ?_⟩
  have T2 := (T1.fr f2).set (c := 114) (v := nuW x n (hd1 x n)) (by omega)
  have Z2' := Z2.set (c := 114) (t := t) (v := nuW x n (hd1 x n)) (by omega)
  refine s_146 T2 t0 t1 hn Z2' (by omega) fun M3 Z3 f3 => ⟨rfl, ?_⟩
  refine s_146 (T2.fr f3) t0 t1 hn Z3 (by omega) fun M4 Z4 f4 => ⟨rfl, ?_⟩
  have T4 := (T2.fr f3).fr f4
  refine s_147 T4 t0 t1 hn Z4 (by omega) B2 fun M5 Z5 f5 => ⟨_, rfl, ⟨t0, t1⟩, ?_⟩
  have T5 := (T4.fr f5).set (c := 115) (v := nuW x n (hd2 x n)) (by omega)
  have Z5' := Z5.set (c := 115) (t := t) (v := nuW x n (hd2 x n)) (by omega)
  refine s_146 T5 t0 t1 hn Z5' (by omega) fun M6 Z6 f6 => ⟨rfl, ?_⟩
  refine s_146 (T5.fr f6) t0 t1 hn Z6 (by omega) fun M7 Z7 f7 => ⟨rfl, ?_⟩
  have T7 := (T5.fr f6).fr f7
  refine s_147 T7 t0 t1 hn Z7 (by omega) B3 fun M8 Z8 f8 => ⟨_, rfl, ⟨t0, t1⟩, ?_⟩
  have T8 := (T7.fr f8).set (c := 116) (v := nuW x n (hd3 x n)) (by omega)
  have Z8' := Z8.set (c := 116) (t := t) (v := nuW x n (hd3 x n)) (by omega)
  refine s_146 T8 t0 t1 hn Z8' (by omega) fun M9 Z9 f9 => ⟨rfl, ?_⟩
  have T9 := T8.fr f9
  have F9 : FrT t M M9 := ((((((((((((F0.tr f1.tt).tr f2.tt).setA (c := 114) (v := nuW x n (hd1 x n)) (by omega)).tr f3.tt).tr f4.tt).tr f5.tt).setA (c := 115) (v := nuW x n (hd2 x n)) (by omega)).tr f6.tt).tr f7.tt).tr f8.tt).setA (c := 116) (v := nuW x n (hd3 x n)) (by omega)).tr f9.tt)
  have s9 : M9 117 t = 0 := by
    rw [f9 _ _ (by omega), ms_c (by omega), f8 _ _ (by omega), f7 _ _ (by omega), f6 _ _ (by omega), ms_c (by omega), f5 _ _ (by omega), f4 _ _ (by omega), f3 _ _ (by omega), ms_c (by omega), f2 _ _ (by omega), f1 _ _ (by omega)]
    exact S0
  have p4 : M9 114 t = nuW x n (hd1 x n) := by
    rw [f9 _ _ (by omega), ms_c (by omega), f8 _ _ (by omega), f7 _ _ (by omega), f6 _ _ (by omega), ms_c (by omega), f5 _ _ (by omega), f4 _ _ (by omega), f3 _ _ (by omega), ms_eq]
    rfl
  have p5 : M9 115 t = nuW x n (hd2 x n) := by
    rw [f9 _ _ (by omega), ms_c (by omega), f8 _ _ (by omega), f7 _ _ (by omega), f6 _ _ (by omega), ms_eq]
    rfl
  have p6 : M9 116 t = nuW x n (hd3 x n) := by rw [f9 _ _ (by omega), ms_eq]; rfl
  have Z9' : RZ (hd4 x n) M9 12 := Z9
  clear Z9 Z8 Z8' Z7 Z6 Z5 Z5' Z4 Z3 Z2 Z2' Z1 Z0 T8 T7 T5 T4 T2 T1 T0 F0 f1 f2 f3 f4 f5 f6 f7 f8 f9
  -- the end
  have eleven : ∀ M3 v, TR x n t M3 → FrT t M M3 → (M3 114 t = nuW x n (hd1 x n) ∧ M3 115 t = nuW x n (hd2 x n) ∧ M3 116 t = nuW x n (hd3 x n)) → M3 104 21 = ftF x n h → (ftF x n h = -1 → M3 117 t = stN x n h ∧ v = hsF x n (a0F x n) (stN x n h) ∧ StK x n (a0F x n) t M3 (stN x n h)) → Rn sx L K0 R0 149 11 [vR 106, vI t, vI v, vI 0] [] M3 Q := by
    intro M3 v T3 F3 pp e21 ok
    have n21 : mset (mset M3 113 t (M3 104 21)) 120 t v 104 21 = ftF x n h := by rw [ms_c (by omega), ms_c (by omega)]; exact e21
    have n117 : mset (mset M3 113 t (M3 104 21)) 120 t v 117 t = M3 117 t := by rw [ms_c (by omega), ms_c (by omega)]
    have fin : ∀ y, y = (stN x n h : Int) → Rn sx L K0 R0 149 13 [vR 106, vI t, vI v, vI 0] [vI y, vI t, vR 119] (mset (mset M3 113 t (M3 104 21)) 120 t v) Q := by
      intro y hy
      refine b_149_13 ⟨⟨t0, t1⟩, hQ _ ⟨?_, ?_, ?_, ?_, ?_, fun w => ?_, fun j hj => ?_⟩ (((F3.setA (by omega)).setA (by omega)).setA (by omega))⟩
      · rw [ms_c (by omega), ms_c (by omega), ms_eq]; exact e21
      · rw [ms_c (by omega), ms_c (by omega), ms_c (by omega)]; exact pp.1
      · rw [ms_c (by omega), ms_c (by omega), ms_c (by omega)]; exact pp.2.1
      · rw [ms_c (by omega), ms_c (by omega), ms_c (by omega)]; exact pp.2.2
      · rw [ms_eq]; exact hy
      · rw [ms_c (by omega), ms_eq]; exact (ok w).2.1
      · have w : ftF x n h = -1 := by
          apply Classical.byContradiction
          intro w
          unfold stN at hj
          rw [if_neg w] at hj
          omega
        rw [ms_c (by omega), ms_c (by omega), ms_c (by omega), ms_c (by omega), ms_c (by omega), ms_c (by omega)]
        exact (ok w).2.2 j hj
    refine b_149_11 ⟨⟨t0, t1⟩, ⟨t0, t1⟩, ?_⟩
    rw [n21, n117]
    refine ⟨fun w => b_149_12 (fin 0 ?_), fun w => ⟨⟨t0, t1⟩, fin _ (ok (Decidable.not_not.mp w)).1⟩⟩
    unfold stN
    rw [if_neg w]
    rfl
  by_cases hf : (hd4 x n).1 = -1
  · have hd := hd_ok hn0 hf
    have e20 : M9 104 20 = a0F x n := Z9'.2.1 hf
    refine ⟨fun w => absurd hf (by rw [← Z9'.1]; exact w), fun _ => b_149_2 ?_⟩
    have L9 := s_149l (sx := sx) (L := L) (Q := Q) (h := h) (a := a0F x n) t0 t1 hn hh0 hh hd.1 (by have := B4.2.2.2; unfold a0F; omega) M9 (by rw [F9 _ _ (by omega) (by omega) (by omega)]; exact hth) 20 0 M9 (by omega) T9 (by rw [Z9'.1]; exact hf) (by rw [e20]; omega) (by rw [s9]; rfl) (fun j hj => by omega) (fun j hj => by omega) FrL.rfl'
    refine L9 fun M3 v T3 e117 st3 F3 alt => ?_
    have pA : M3 114 t = nuW x n (hd1 x n) ∧ M3 115 t = nuW x n (hd2 x n) ∧ M3 116 t = nuW x n (hd3 x n) := by
      rw [F3 _ _ (by omega) (by omega) (by omega), F3 _ _ (by omega) (by omega) (by omega), F3 _ _ (by omega) (by omega) (by omega)]
      exact ⟨p4, p5, p6⟩
    have F3' : FrT t M M3 := F9.tr F3.tt
    have eft : ftF x n h = if ¬ (stF' x n h).1 = -1 then (stF' x n h).1 else if wkS x n (a0F x n) (stF' x n h).2 = 0 then n else -1 := by unfold ftF; rw [if_neg (fun w => w hf)]
    have epr : prs x n h (a0F x n) 20 0 = stF' x n h := rfl
    have sok := prs_ok (x := x) (n := n) (h := h) (a := a0F x n) 20 0 (fun j hj => by omega)
    rw [epr] at e117 st3 alt sok
    have k17 := kb_le hd.1 hn sok
    have stn : ftF x n h = -1 → stN x n h = (stF' x n h).2 := fun w => by unfold stN; rw [if_pos w]
    generalize stF' x n h = fk at e117 st3 alt sok k17 eft stn
    refine b_149_8 ?_
    rcases alt with ⟨nf, e21⟩ | ⟨e21, hv, e, e20, e0, ea⟩
    · rw [if_pos nf] at eft
      rw [e21]
      refine ⟨fun _ => b_149_9 ?_, fun w => absurd nf w⟩
      rw [e21]
      exact ⟨fun _ => eleven M3 v T3 F3' pA (by rw [e21, eft]) (fun w => by rw [eft] at w; exact absurd w nf), fun w => absurd nf w⟩
    · rw [e21, e20, T3.2.1]
      refine ⟨fun w => absurd rfl w, fun _ => ⟨⟨t0, t1⟩, fun lt => b_149_10 ?_, fun ge => b_149_9 ?_⟩⟩
      · have fe : fk.1 = e := by rcases ea with ea | ea; exact ea.2; omega
        rw [if_pos (by omega), fe] at eft
        rw [e20]
        refine eleven _ v (T3.fr (Fr2.rfl'.set (by omega))) (F3'.setB (by omega)) ?_ (by rw [ms_eq, eft]) (fun w => by omega)
        rw [ms_c (by omega), ms_c (by omega), ms_c (by omega)]; exact pA
      · have fe : fk.1 = -1 := by rcases ea with ea | ea; omega; exact ea.2
        have en : e = n := by rcases ea with ea | ea; omega; exact ea.1
        rw [if_neg (fun w => w fe)] at eft
        rw [e21]
        refine ⟨fun w => absurd rfl w, fun _ => s_151 t0 t1 (by omega) e117 (fun j j0 j1 => ?_) ⟨_, rfl, ?_⟩⟩
        · have st := st3 j.toNat (by omega)
          have so := sc_ok (by omega) (sok j.toNat (by omega))
          rw [Int.toNat_of_nonneg j0] at st so
          rw [st.2]; omega
        · have ew : (sumI fk.2 fun j => if M3 118 (20 * t + j) = 0 then M3 119 (20 * t + j) else 0) = wkS x n (a0F x n) fk.2 := by
            unfold wkS
            refine sumI_congr fun j j0 j1 => ?_
            have st := st3 j.toNat (by omega)
            rw [Int.toNat_of_nonneg j0] at st
            rw [st.1, st.2]
          rw [ew]
          refine ⟨fun w => ?_, fun w => b_149_10 ?_⟩
          · rw [if_neg w] at eft
            refine eleven M3 v T3 F3' pA (by rw [e21, eft]) (fun w2 => ?_)
            rw [stn eft]
            exact ⟨e117, hv, st3⟩
          · have w' := Decidable.not_not.mp w
            rw [if_pos w'] at eft
            rw [e20]
            refine eleven _ v (T3.fr (Fr2.rfl'.set (by omega))) (F3'.setB (by omega)) ?_ (by rw [ms_eq, eft]; exact en) (fun w2 => by omega)
            rw [ms_c (by omega), ms_c (by omega), ms_c (by omega)]; exact pA
  · refine ⟨fun w => b_149_1 (b_149_2 (b_149_3 ⟨fun _ => ?_, fun v => absurd rfl v⟩)), fun w => absurd (by rw [← Z9'.1]; omega) hf⟩
    have e21 : M9 104 21 = (hd4 x n).1 := Z9'.1
    refine b_149_8 ?_
    rw [e21]
    refine ⟨fun _ => b_149_9 ?_, fun v => absurd hf v⟩
    rw [e21]
    refine ⟨fun _ => eleven M9 0 T9 F9 ⟨p4, p5, p6⟩ ?_ (fun v => ?_), fun v => absurd hf v⟩
    · rw [e21]; unfold ftF; rw [if_pos hf]
    · exfalso
      unfold ftF at v
      rw [if_pos hf] at v
      exact hf v
end
