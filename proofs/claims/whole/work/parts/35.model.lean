/-! the reference's run, method by method -/
def hvF (P : Mem) (t : Int) : Nat → Int
  | 0 => 0
  | n + 1 => if P 118 (20 * t + n) = 0 then hvF P t n else if P 118 (20 * t + n) = 2 then clrB (hvF P t n) (P 119 (20 * t + n)) else iOr (hvF P t n) (1 * 2 ^ (P 119 (20 * t + n)).toNat)
def PVt (P : Mem) (t : Int) : Prop := 1 ≤ P 114 t ∧ P 114 t ≤ 60 ∧ 1 ≤ P 115 t ∧ P 115 t ≤ 99 ∧ 0 ≤ P 116 t ∧ P 116 t ≤ 99 ∧ 0 ≤ P 117 t ∧ P 117 t ≤ 20 ∧
  ∀ k : Nat, (k : Int) < P 117 t → (P 118 (20 * t + k) = 0 ∧ 1 ≤ P 119 (20 * t + k) ∧ P 119 (20 * t + k) ≤ 9) ∨ ((P 118 (20 * t + k) = 1 ∨ P 118 (20 * t + k) = 2) ∧ 0 ≤ P 119 (20 * t + k) ∧ P 119 (20 * t + k) < P 104 0 ∧ (P 118 (20 * t + k) = 1 → tb (hvF P t k) (P 119 (20 * t + k)) = false))
def PV (P : Mem) : Prop := inB (P 104 27) ∧ 0 ≤ P 104 0 ∧ P 104 0 ≤ 6 ∧ 0 ≤ P 104 33 ∧ P 104 33 ≤ 2 ∧ 0 ≤ P 104 34 ∧ P 104 34 ≤ 2 ∧ 1 ≤ P 104 24 ∧ P 104 24 ≤ 3 ∧ 0 ≤ P 104 32 ∧ P 104 32 ≤ 21 ∧
  (∀ t, 0 ≤ t → t < 8 → 0 ≤ P 121 t ∧ P 121 t ≤ 99 ∧ 0 ≤ P 122 t ∧ P 122 t ≤ 3 ∧ 0 ≤ P 116 t ∧ P 116 t ≤ 99) ∧ ∀ t, 0 ≤ t → t < 8 → tb (P 104 27) t = true → PVt P t
/-- what holds of each task between any two moves -/
def SVt (P s : Mem) (t : Int) : Prop := 0 ≤ s 124 t ∧ s 124 t ≤ s 123 t ∧ s 123 t ≤ 120 ∧ inB (s 129 t) ∧ (s 130 t = 0 ∨ s 130 t = 1) ∧ (s 130 t = 0 → s 129 t = 0) ∧ (tb (P 104 27) t = false → s 123 t = 0) ∧
  (s 130 t = 1 → 1 ≤ s 124 t ∧ 0 ≤ s 127 t ∧ s 127 t ≤ P 117 t ∧ s 129 t = hvF P t (s 127 t).toNat) ∧ -1 ≤ s 131 t ∧ s 131 t ≤ 120
def SV (P s : Mem) : Prop := ∀ t, 0 ≤ t → t < 8 → SVt P s t
def isS (c : Nat) (k : Int) : Prop := c = 123 ∨ c = 124 ∨ (126 ≤ c ∧ c ≤ 133) ∨ c = 135 ∨ c = 136 ∨ (c = 104 ∧ (k = 49 ∨ k = 50))
def isP (c : Nat) (k : Int) : Prop := (105 ≤ c ∧ c ≤ 122) ∨ (c = 104 ∧ ¬ k = 49 ∧ ¬ k = 50 ∧ ¬ k = 51)
/-- the reference's memory in a run: its parameters, its state, the ranks it keeps, when each job came -/
def MR (P s M : Mem) (τ : Int) : Prop := (∀ c k, isP c k → M c k = P c k) ∧ (∀ c k, isS c k → M c k = s c k) ∧ (∀ h, 0 ≤ h → h < P 104 0 → M 137 h = hiR P h) ∧ (∀ t j, 0 ≤ t → t < 8 → 0 ≤ j → j < s 123 t → M 125 (200 * t + j) = caF P t j) ∧ M 104 51 = τ
def runC (c : Nat) (k : Int) : Prop := (123 ≤ c ∧ c ≤ 137) ∨ (c = 104 ∧ (k = 49 ∨ k = 50 ∨ k = 51))
/-- nothing but what a run writes is changed -/
def Frm (M M' : Mem) : Prop := ∀ c k, ¬ runC c k → M' c k = M c k
theorem Frm.rfl' {M : Mem} : Frm M M := fun _ _ _ => rfl
theorem Frm.tr {M M1 M2 : Mem} (h : Frm M M1) (h2 : Frm M1 M2) : Frm M M2 := fun c k q => (h2 c k q).trans (h c k q)
theorem Frm.set {M M1 : Mem} {c : Nat} {k v : Int} (h : Frm M M1) (hc : runC c k) : Frm M (mset M1 c k v) := fun c' k' q => by
  rw [ms_ne (fun e => q (by rw [e.1, e.2]; exact hc)), h c' k' q]
theorem lpI {N : Int} {G : Int → Prop} (step : ∀ k, 0 ≤ k → k < N → G (k + 1) → G k) (fin : G N) : ∀ k, 0 ≤ k → k ≤ N → G k := by
  have : ∀ (n : Nat) (k : Int), k + n = N → 0 ≤ k → G k := by
    intro n
    induction n with
    | zero =>
      intro k h _
      have : k = N := by omega
      rw [this]; exact fin
    | succ n ih => exact fun k h h0 => step k h0 (by omega) (ih (k + 1) (by omega) (by omega))
  exact fun k h0 h1 => this (N - k).toNat k (by omega) h0
theorem lpM {N : Int} {I G : Int → Mem → Prop} (step : ∀ k M, 0 ≤ k → k < N → I k M → (∀ M', I (k + 1) M' → G (k + 1) M') → G k M) (fin : ∀ M, I N M → G N M) : ∀ k M, 0 ≤ k → k ≤ N → I k M → G k M := by
  have : ∀ k, 0 ≤ k → k ≤ N → ∀ M, I k M → G k M := lpI (G := fun k => ∀ M, I k M → G k M) (fun k h0 h1 ih M hI => step k M h0 h1 hI ih) fin
  exact fun k M h0 h1 hI => this k h0 h1 M hI
theorem sumI_s {k : Int} (h : 0 ≤ k) (f : Int → Int) : sumI (k + 1).toNat f = sumI k.toNat f + f k := by
  rw [show (k + 1).toNat = k.toNat + 1 by omega]
  simp only [sumI, Int.toNat_of_nonneg h]
theorem maxI_s {k : Int} (h : 0 ≤ k) (f : Int → Int) : maxI (k + 1).toNat f = max (maxI k.toNat f) (f k) := by
  rw [show (k + 1).toNat = k.toNat + 1 by omega]
  simp only [maxI, Int.toNat_of_nonneg h]
theorem exB_s {k : Int} (h : 0 ≤ k) (f : Int → Bool) : exB (k + 1).toNat f = (exB k.toNat f || f k) := by
  rw [show (k + 1).toNat = k.toNat + 1 by omega]
  simp only [exB, Int.toNat_of_nonneg h]
theorem mkB_s {k : Int} (h : 0 ≤ k) (f : Int → Bool) : mkB (k + 1).toNat f = if f k = true then iOr (mkB k.toNat f) (1 * 2 ^ k.toNat) else mkB k.toNat f := by
  rw [show (k + 1).toNat = k.toNat + 1 by omega]
  simp only [mkB, Int.toNat_of_nonneg h, Int.toNat_natCast]
theorem or_0 {b : Int} (h : inB b) : iOr b 0 = b := by
  refine tb_ext (or_B h ⟨by omega, by omega⟩).1 h.1 fun i _ => ?_
  rw [tb_or h ⟨by omega, by omega⟩, tb_zero, Bool.or_false]
theorem maxI_ge {n : Nat} {f : Int → Int} : -1 ≤ maxI n f := by
  induction n with
  | zero => simp [maxI]
  | succ n ih => simp only [maxI]; omega
theorem pow30 {x : Int} (h0 : 0 ≤ x) (h1 : x ≤ 30) : (0 : Int) ≤ 1 ∧ 0 ≤ x ∧ x ≤ 30 ∧ (1 : Int) * 2 ^ x.toNat ≤ 2147483647 := ⟨by omega, h0, h1, (pow_B h1).2⟩
theorem r01 {p : Bool} : (0 : Int) ≤ (if p = true then 1 else 0) ∧ (if p = true then 1 else 0) ≤ (1 : Int) := by split <;> omega
section
variable {sx : Int → Int} {L : Nat} {P s M : Mem} {τ : Int} {Q : Option AV → Mem → Prop}
theorem s_137 {x lo hi : Int} (h : ∀ r, (lo ≤ x ∧ x ≤ hi ∧ r = 1 ∨ ¬ (lo ≤ x ∧ x ≤ hi) ∧ r = 0) → Q (some (vI r)) M) : Mq sx L K0 R0 137 [vI x, vI lo, vI hi] M Q := by
  refine m_137 (b_137_0 ⟨fun a => b_137_1 (b_137_2 ⟨Or.inl rfl, h 0 (by omega)⟩), fun a => ⟨fun b => b_137_1 (b_137_2 ⟨Or.inl rfl, h 0 (by omega)⟩), fun b => b_137_2 ⟨Or.inr rfl, h 1 (by omega)⟩⟩⟩)
theorem s_162 {h : Int} (hb : ∀ t, 0 ≤ t → t < 8 → inB (M 129 t)) (h0 : 0 ≤ h) (h1 : h ≤ 30) (hQ : Q (some (vI (sumI 8 fun t => if tb (M 129 t) h = true then 1 else 0))) M) : Mq sx L K0 R0 162 [vR 106, vI h] M Q := by
  refine m_162 (b_162_0 (lpI (N := 8) (G := fun k => Rn sx L K0 R0 162 1 [vR 106, vI h, vI (sumI k.toNat fun t => if tb (M 129 t) h = true then 1 else 0), vI k] [] M Q) (fun k hk0 hk ih => ?_) (b_162_1 ⟨fun _ => b_162_2 hQ, fun q => absurd (by omega) q⟩) 0 (by omega) (by omega)))
  have hs := sumI_0 (n := k.toNat) (f := fun t => if tb (M 129 t) h = true then 1 else 0) (b := 1) (fun t _ _ => r01)
  have hB := hb k hk0 hk
  have e2 := r01 (p := tb (M 129 k) h)
  rw [sumI_s hk0] at ih
  refine b_162_1 ⟨fun q => absurd q (by omega), fun _ => ?_⟩
  rw [bt_eq hB]
  exact ⟨⟨hk0, hk⟩, ⟨hB.1, h0, h1⟩, ⟨by omega, by omega⟩, ⟨by omega, by omega⟩, ih⟩
/-- the reference's bits of a bit that is asked for with = 1 -/
theorem bt_1 {b i : Int} (hb : inB b) : (iAnd (b / 2 ^ i.toNat) 1 = 1) = (tb b i = true) := by
  rw [bt_eq hb]
  cases tb b i <;> simp
def PVs (M : Mem) : Prop := inB (M 104 27) ∧ (∀ t, 0 ≤ t → t < 8 → -1 ≤ M 121 t) ∧ ∀ t, 0 ≤ t → t < 8 → tb (M 104 27) t = true → 0 ≤ M 117 t ∧ M 117 t ≤ 20
theorem s_163 {h : Int} (hp : PVs M) (hQ : Q (some (vI (hiR M h))) M) : Mq sx L K0 R0 163 [vR 106, vI h] M Q := by
  obtain ⟨hpA, hpR, hpS⟩ := hp
  refine m_163 (b_163_0 (lpI (N := 8) (G := fun t => ∀ u4 u5, cat2 u4 = false → cat2 u5 = false → Rn sx L K0 R0 163 1 [vR 106, vI h, vI (maxI t.toNat fun t => if (tb (M 104 27) t && tksP M t h) = true then M 121 t else -1), vI t, u4, u5] [] M Q) (fun t h0 h1 ih => ?_) (fun u4 u5 h4 h5 => b_163_1 h4 h5 ⟨fun _ => b_163_8 h4 h5 hQ, fun q => absurd (by omega) q⟩) 0 (by omega) (by omega) vU vU rfl rfl))
  intro u4 u5 h4 h5
  refine b_163_1 h4 h5 ⟨fun q => absurd q (by omega), fun _ => ?_⟩
  rw [maxI_s h0] at ih
  have hge := maxI_ge (n := t.toNat) (f := fun t => if (tb (M 104 27) t && tksP M t h) = true then M 121 t else -1)
  revert ih hge
  generalize maxI t.toNat (fun t => if (tb (M 104 27) t && tksP M t h) = true then M 121 t else -1) = b0
  intro ih hge
  have hr := hpR t h0 h1
  cases hA : tb (M 104 27) t
  · rw [hA, Bool.false_and, if_neg (by decide)] at ih
    have e : max b0 (-1) = b0 := by omega
    rw [e] at ih
    have fin : Rn sx L K0 R0 163 7 [vR 106, vI h, vI b0, vI t, vI 0, u5] [] M Q := b_163_7 h5 ⟨⟨by omega, by omega⟩, ih _ _ rfl h5⟩
    refine b_163_2 h5 ⟨⟨h0, h1⟩, fun _ => fin, fun _ => ⟨⟨hpA.1, h0, by omega⟩, fun _ => fin, fun q => ?_⟩⟩
    rw [bt_1 hpA, hA] at q
    exact absurd (by decide) q
  · have hS := hpS t h0 h1 hA
    rw [hA, Bool.true_and] at ih
    have lp := lpI (N := M 117 t) (G := fun k => ∀ u5, cat2 u5 = false → Rn sx L K0 R0 163 2 [vR 106, vI h, vI (max b0 (if exB k.toNat (fun k => decide (M 118 (20 * t + k) = 1) && decide (M 119 (20 * t + k) = h)) = true then M 121 t else -1)), vI t, vI k, u5] [] M Q) (fun k k0 k1 ik => ?_) (fun u5 h5 => b_163_2 h5 ⟨⟨h0, h1⟩, fun _ => b_163_7 h5 ⟨⟨by omega, by omega⟩, ih _ _ rfl h5⟩, fun q => absurd (by omega) q⟩) 0 (by omega) (by omega) u5 h5
    · simp only [Int.toNat_zero, exB] at lp
      rw [if_neg (by decide), show max b0 (-1) = b0 by omega] at lp
      exact lp
    · intro u5 h5
      rw [exB_s k0] at ik
      revert ik
      generalize exB k.toNat (fun k => decide (M 118 (20 * t + k) = 1) && decide (M 119 (20 * t + k) = h)) = e0
      intro ik
      have R : (0 : Int) ≤ 20 * t + k ∧ 20 * t + k < 160 := by omega
      have R1 : inR (20 * t) := ⟨by omega, by omega⟩
      have R2 : inR (20 * t + k) := ⟨by omega, by omega⟩
      have nx : ∀ (z : Bool) (u : Int), (z = (decide (M 118 (20 * t + k) = 1) && decide (M 119 (20 * t + k) = h))) → u = (if z = true then 1 else 0) → ∀ u5, cat2 u5 = false → Rn sx L K0 R0 163 4 [vR 106, vI h, vI (max b0 (if e0 = true then M 121 t else -1)), vI t, vI k, u5] [vI u] M Q := by
        intro z u hz hu u5 h5
        have ik2 := ik (vI u) rfl
        rw [← hz] at ik2
        refine b_163_4 h5 ⟨fun q => b_163_5 (b_163_6 ⟨⟨by omega, by omega⟩, ?_⟩), fun q => ⟨⟨h0, h1⟩, fun q2 => b_163_5 (b_163_6 ⟨⟨by omega, by omega⟩, ?_⟩), fun q2 => ⟨⟨h0, h1⟩, b_163_6 ⟨⟨by omega, by omega⟩, ?_⟩⟩⟩⟩
        · have : z = false := by
            cases z
            · rfl
            · rw [hu] at q; exact absurd q (by decide)
          rw [this, Bool.or_false] at ik2
          exact ik2
        · have : z = true := by
            cases z
            · rw [hu] at q; exact absurd rfl q
            · rfl
          rw [this, Bool.or_true, if_pos rfl] at ik2
          have e : max b0 (M 121 t) = max b0 (if e0 = true then M 121 t else -1) := by
            cases e0
            · simp only [Bool.false_eq_true, if_false] at q2 ⊢; omega
            · simp
          rw [e] at ik2
          exact ik2
        · have : z = true := by
            cases z
            · rw [hu] at q; exact absurd rfl q
            · rfl
          rw [this, Bool.or_true, if_pos rfl] at ik2
          have e : max b0 (M 121 t) = M 121 t := by
            cases e0
            · simp only [Bool.false_eq_true, if_false] at q2; omega
            · simp only [if_true] at q2; omega
          rw [e] at ik2
          exact ik2
      refine b_163_2 h5 ⟨⟨h0, h1⟩, fun q => absurd q (by omega), fun _ => ⟨⟨hpA.1, h0, by omega⟩, fun q => ?_, fun _ => ⟨R1, R2, R, fun q => ?_, fun q => ⟨R1, R2, R, fun q2 => ?_, fun q2 => ?_⟩⟩⟩⟩
      · rw [bt_1 hpA] at q
        exact absurd hA q
      · exact b_163_3 h5 (nx false 0 (by rw [decide_eq_false q]; rfl) rfl u5 h5)
      · exact b_163_3 h5 (nx false 0 (by rw [decide_eq_false q2, Bool.and_false]) rfl u5 h5)
      · exact nx true 1 (by rw [decide_eq_true (Decidable.not_not.mp q), decide_eq_true (Decidable.not_not.mp q2)]; rfl) rfl u5 h5
end
