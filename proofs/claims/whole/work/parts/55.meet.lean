/-! the class: jobs come -/
section
variable {sx : Int → Int} {L : Nat} {P s M : Mem} {τ T : Int} {Q : Option AV → Mem → Prop} {B : Nat}
/-- what a run goes by -/
def CPr (P M : Mem) (B : Nat) (T : Int) : Prop := M B 6 = P 104 27 ∧ M B 7 = P 104 33 ∧ M B 8 = P 104 34 ∧ M B 9 = P 104 24 ∧ M B 10 = T ∧ ∀ t, 0 ≤ t → t < 8 → (tb (P 104 27) t = true → M (ckA B t) 2 = P 116 t + P 122 t) ∧ M (ckA B t) 3 = P 121 t ∧ (M (ckA B t) 4 = if t = P 104 30 then P 104 31 else -1) ∧ (t = P 104 30 → M (ckA B t) 5 = P 104 32) ∧ M (ckA B t) 17 = brB P t
/-- where a task stands -/
def CJ (P s M : Mem) (B : Nat) (t : Int) : Prop := M (ckA B t) 6 = s 123 t ∧ M (ckA B t) 7 = s 124 t ∧ (M (ckA B t) 8 = if s 130 t = 0 then -1 else s 124 t - 1) ∧ M (ckA B t) 12 = s 129 t ∧ (s 130 t = 1 → M (ckA B t) 9 = caF P t (s 124 t - 1) + P 115 t ∧ M (ckA B t) 10 = s 127 t ∧ M (ckA B t) 11 = s 128 t) ∧ ∀ j, 0 ≤ j → j < s 123 t → M (ckA B t + 1) j = s 126 (200 * t + j)
theorem CJ.sm {s' M' : Mem} {t : Int} (hv : SVt P s t) (h : CJ P s M B t) (e : SmT s s' t) (f : ∀ k, M' (ckA B t) k = M (ckA B t) k) (g : ∀ k, M' (ckA B t + 1) k = M (ckA B t + 1) k) : CJ P s' M' B t := by
  unfold CJ at h ⊢
  rw [e.1 123 (by omega) (by omega) (by omega) (by omega), e.1 124 (by omega) (by omega) (by omega) (by omega), e.1 127 (by omega) (by omega) (by omega) (by omega), e.1 128 (by omega) (by omega) (by omega) (by omega), e.1 129 (by omega) (by omega) (by omega) (by omega), e.1 130 (by omega) (by omega) (by omega) (by omega), f, f, f, f, f, f, f]
  obtain ⟨h1, h2, h3, h4, h5, h6⟩ := h
  refine ⟨h1, h2, h3, h4, h5, fun j j0 j1 => ?_⟩
  rw [g, e.2 j j0 (by have := hv.2.2.1; omega)]
  exact h6 j j0 j1
theorem CJ.eq {s' M' : Mem} {t : Int} (h : CJ P s M B t) (e : ∀ c k, (c = 123 ∨ c = 124 ∨ c = 126 ∨ c = 127 ∨ c = 128 ∨ c = 129 ∨ c = 130) → s' c k = s c k) (f : ∀ k, (6 ≤ k ∧ k ≤ 12) → M' (ckA B t) k = M (ckA B t) k) (g : ∀ k, M' (ckA B t + 1) k = M (ckA B t + 1) k) : CJ P s' M' B t := by
  unfold CJ at h ⊢
  rw [e 123 t (by omega), e 124 t (by omega), e 127 t (by omega), e 128 t (by omega), e 129 t (by omega), e 130 t (by omega), f 6 (by omega), f 7 (by omega), f 8 (by omega), f 9 (by omega), f 10 (by omega), f 11 (by omega), f 12 (by omega)]
  obtain ⟨h1, h2, h3, h4, h5, h6⟩ := h
  refine ⟨h1, h2, h3, h4, h5, fun j j0 j1 => ?_⟩
  rw [g, e 126 _ (by omega)]
  exact h6 j j0 j1
def FrJ (B : Nat) (t : Int) (M M' : Mem) : Prop := ∀ c k, ¬ (c = ckA B t ∧ 6 ≤ k ∧ k ≤ 11) → ¬ c = ckA B t + 1 → M' c k = M c k
theorem FrJ.rfl' {t : Int} : FrJ B t M M := fun _ _ _ _ => rfl
theorem FrJ.set {t : Int} {M1 : Mem} {k v : Int} (h : FrJ B t M M1) (hk : 6 ≤ k ∧ k ≤ 11) : FrJ B t M (mset M1 (ckA B t) k v) := fun c' k' q q2 => by
  rw [ms_ne (fun e => q ⟨e.1, by omega⟩), h c' k' q q2]
theorem FrJ.set1 {t : Int} {M1 : Mem} {k v : Int} (h : FrJ B t M M1) : FrJ B t M (mset M1 (ckA B t + 1) k v) := fun c' k' q q2 => by
  rw [ms_c q2, h c' k' q q2]
theorem FrJ.b {t : Int} {M1 : Mem} (h : FrJ B t M M1) (h0 : 0 ≤ t) (h1 : t < 8) : FrB B M M1 := fun c k q => h c k (fun e => q (by rw [e.1]; exact ck_in h0 h1)) (fun e => q (by rw [e]; exact ck_in1 h0 h1))
theorem s_2 {t j : Int} (hB : isRb B) (h0 : 0 ≤ t) (h1 : t < 8) (hC : CPl P M) (hp : PV P) (hA : tb (P 104 27) t = true) (h2 : M (ckA B t) 2 = P 116 t + P 122 t) (j0 : 0 ≤ j) (j1 : j < 120) (hQ : Q (some (vI (caF P t j))) M) : Mq sx L K0 R0 2 [vR (ckA B t + 2), vI j] M Q := by
  have hV := hp.2.2.2.2.2.2.2.2.2.2.2.2 t h0 h1 hA
  obtain ⟨v1, v2, v3, v4, v5, v6, v7⟩ := hV
  have hb := ca_B hp h0 h1 hA j0 j1
  have e4 := (hC.2.2.2.2 t h0 h1 hA).1
  have hm := mulB (a := j) (b := P 114 t) (A := 119) (B := 60) j0 (by omega) (by omega) (by omega)
  refine m_2 (b_2_0 (isCk_A hB h0 h1) ?_)
  rw [plC_A hB h0 h1, e4, h2]
  unfold caF at hb hQ
  exact ⟨⟨by omega, by omega⟩, ⟨by omega, by omega⟩, hQ⟩
theorem s_3 {t j : Int} (hB : isRb B) (h0 : 0 ≤ t) (h1 : t < 8) (hC : CPl P M) (hp : PV P) (hA : tb (P 104 27) t = true) (h2 : M (ckA B t) 2 = P 116 t + P 122 t) (j0 : 0 ≤ j) (j1 : j < 120) (hQ : Q (some (vI (caF P t j + P 115 t))) M) : Mq sx L K0 R0 3 [vR (ckA B t + 2), vI j] M Q := by
  have hV := hp.2.2.2.2.2.2.2.2.2.2.2.2 t h0 h1 hA
  obtain ⟨v1, v2, v3, v4, v5, v6, v7⟩ := hV
  have hb := ca_B hp h0 h1 hA j0 j1
  have e4 := (hC.2.2.2.2 t h0 h1 hA).1
  have e5 := (hC.2.2.2.2 t h0 h1 hA).2.1
  have hm := mulB (a := j) (b := P 114 t) (A := 119) (B := 60) j0 (by omega) (by omega) (by omega)
  refine m_3 (b_3_0 (isCk_A hB h0 h1) ?_)
  rw [plC_A hB h0 h1, e4, h2, e5]
  unfold caF at hb hQ
  exact ⟨⟨by omega, by omega⟩, ⟨by omega, by omega⟩, ⟨by omega, by omega⟩, hQ⟩
theorem s_4 {t : Int} (hB : isRb B) (h0 : 0 ≤ t) (h1 : t < 8) (hC : CPl P M) (hp : PV P) (hA : tb (P 104 27) t = true) (h2 : M (ckA B t) 2 = P 116 t + P 122 t) (hv : SVt P s t) (hc : CVt P s τ t) (hτ : τ < 120) (hj : CJ P s M B t)
    (hQ : ∀ M', CJ P (cm1 P τ t s) M' B t → FrJ B t M M' → Q none M') : Mq sx L K0 R0 4 [vR (ckA B t + 2), vI τ] M Q := by
  have hk := isCk_A hB h0 h1
  have c1 := hc.1
  obtain ⟨a1, a2, a3, a4, a5, a6, a7, a8, a9⟩ := hv
  -- from CJ of what came to the end
  have last : ∀ (y M3 : Mem), cm1 P τ t s = cmC t y → CJ P y M3 B t → FrJ B t M M3 → Rn sx L K0 R0 4 2 [vR (ckA B t + 2), vI τ] [] M3 Q := by
    intro y M3 e j f
    refine b_4_2 hk (hQ M3 ?_ f)
    rw [e]
    exact j.eq (fun c k q => by rw [cmC_c (by omega) (by omega)]) (fun _ _ => rfl) (fun _ => rfl)
  have two : ∀ M2, CJ P (cmA P τ t s) M2 B t → FrJ B t M M2 → Rn sx L K0 R0 4 1 [vR (ckA B t + 2), vI τ] [] M2 Q := by
    intro M2 j f
    have y130 : cmA P τ t s 130 = s 130 := cmA_c (by omega) (by omega)
    have y124 : cmA P τ t s 124 = s 124 := cmA_c (by omega) (by omega)
    obtain ⟨j1, j2, j3, j4, j5, j6⟩ := id j
    have nob : ¬ (cmA P τ t s 130 t = 0 ∧ cmA P τ t s 124 t < cmA P τ t s 123 t) → Rn sx L K0 R0 4 2 [vR (ckA B t + 2), vI τ] [] M2 Q := fun w => last (cmA P τ t s) M2 (by unfold cm1 cmB; rw [if_neg w]) j f
    rw [y130, y124] at nob
    rw [y124] at j2
    rw [y130, y124] at j3
    by_cases g : s 130 t = 0
    · rw [if_pos g] at j3
      refine b_4_1 hk ⟨fun q => absurd j3 q, fun _ => ⟨fun q => nob (by omega), fun q => ?_⟩⟩
      have g2 : s 124 t < cmA P τ t s 123 t := by omega
      have x123 : cmA P τ t s 123 t ≤ τ + 1 := by rw [cmA_t]; split <;> omega
      rw [ms_k (by omega), ms_k (by omega), ms_eq, j2]
      refine ⟨⟨by omega, by omega⟩, ?_⟩
      have f2 : FrJ B t M (mset (mset M2 (ckA B t) 8 (s 124 t)) (ckA B t) 7 (s 124 t + 1)) := (f.set (by omega)).set (by omega)
      have C2 : CPl P (mset (mset M2 (ckA B t) 8 (s 124 t)) (ckA B t) 7 (s 124 t + 1)) := hC.fr hB (f2.b h0 h1)
      refine s_3 hB h0 h1 C2 hp hA (by rw [f2 _ _ (by omega) (by omega)]; exact h2) a1 (by omega) ⟨_, rfl, last (cmB t (cmA P τ t s)) _ rfl ?_ (((f2.set (by omega)).set (by omega)).set (by omega))⟩
      have e1 : ¬ (9 : Int) = 10 := by omega
      unfold cmB
      rw [y130, y124, if_pos ⟨g, g2⟩]
      refine ⟨?_, ?_, ?_, ?_, fun _ => ⟨?_, ?_, ?_⟩, fun i i0 i1 => ?_⟩
      · rw [ms_k (by omega), ms_k (by omega), ms_k (by omega), ms_k (by omega), ms_k (by omega), j1, ms_c (by omega), ms_c (by omega), ms_c (by omega), ms_c (by omega)]
      · rw [ms_k (by omega), ms_k (by omega), ms_k (by omega), ms_eq, ms_eq]
      · rw [ms_k (by omega), ms_k (by omega), ms_k (by omega), ms_k (by omega), ms_eq, ms_c (c' := 130) (by omega), ms_c (c' := 130) (by omega), ms_c (c' := 130) (by omega), ms_eq, if_neg (by omega), ms_eq]
        omega
      · rw [ms_k (by omega), ms_k (by omega), ms_k (by omega), ms_k (by omega), ms_k (by omega), j4, ms_c (by omega), ms_c (by omega), ms_c (by omega), ms_c (by omega)]
      · rw [ms_k (by omega), ms_k (by omega), ms_eq, ms_eq]
        rw [show s 124 t + 1 - 1 = s 124 t by omega]
      · rw [ms_k (by omega), ms_eq, ms_c (by omega), ms_c (by omega), ms_eq]
      · rw [ms_eq, ms_c (by omega), ms_eq]
      · rw [ms_c (by omega), ms_c (by omega), ms_c (by omega), ms_c (by omega)] at i1
        rw [ms_c (by omega), ms_c (by omega), ms_c (by omega), ms_c (by omega), ms_c (by omega), ms_c (c' := 126) (by omega), ms_c (c' := 126) (by omega), ms_c (c' := 126) (by omega), ms_c (c' := 126) (by omega)]
        exact j6 i i0 i1
    · have b := a8 (by omega)
      rw [if_neg g] at j3
      exact b_4_1 hk ⟨fun q => nob (by omega), fun q => absurd (by omega) q⟩
  obtain ⟨j1, j2, j3, j4, j5, j6⟩ := id hj
  have ncom : com P s τ t = false → Rn sx L K0 R0 4 1 [vR (ckA B t + 2), vI τ] [] M Q := fun w => two M (by unfold cmA; rw [if_neg (by rw [w]; decide)]; exact hj) FrJ.rfl'
  refine m_4 (b_4_0 hk ?_)
  rw [j1]
  refine s_2 hB h0 h1 hC hp hA h2 (by omega) (by omega) ⟨_, rfl, fun q => ncom ?_, fun q => ⟨fun q2 => absurd q2 (by omega), fun q2 => ⟨fun q3 => absurd q3 (by omega), fun q3 => ⟨⟨by omega, by omega⟩, ?_⟩⟩⟩⟩
  · unfold com
    rw [decide_eq_false q, Bool.and_false]
  · have w : com P s τ t = true := by
      unfold com
      rw [hA, decide_eq_true (Decidable.not_not.mp q)]
      rfl
    rw [j1, ms_c (by omega), j1]
    refine ⟨⟨by omega, by omega⟩, two _ ?_ (FrJ.rfl'.set1.set (by omega))⟩
    unfold cmA
    rw [if_pos w]
    refine ⟨?_, ?_, ?_, ?_, fun g => ?_, fun i i0 i1 => ?_⟩
    · rw [ms_eq, ms_eq]
    · rw [ms_k (by omega), ms_c (by omega), j2, ms_c (by omega), ms_c (by omega)]
    · rw [ms_k (by omega), ms_c (by omega), j3, ms_c (c' := 130) (by omega), ms_c (c' := 130) (by omega), ms_c (c' := 124) (by omega), ms_c (c' := 124) (by omega)]
    · rw [ms_k (by omega), ms_c (by omega), j4, ms_c (by omega), ms_c (by omega)]
    · rw [ms_c (c' := 130) (by omega), ms_c (c' := 130) (by omega)] at g
      have z := j5 g
      refine ⟨?_, ?_, ?_⟩
      · rw [ms_k (by omega), ms_c (by omega), ms_c (c' := 124) (by omega), ms_c (c' := 124) (by omega)]
        exact z.1
      · rw [ms_k (by omega), ms_c (by omega), ms_c (c' := 127) (by omega), ms_c (c' := 127) (by omega)]
        exact z.2.1
      · rw [ms_k (by omega), ms_c (by omega), ms_c (c' := 128) (by omega), ms_c (c' := 128) (by omega)]
        exact z.2.2
    · rw [ms_eq] at i1
      rw [ms_c (by omega), ms_c (c' := 126) (by omega)]
      by_cases e : i = s 123 t
      · rw [e, ms_eq, ms_eq]
      · rw [ms_k e, ms_k (by omega)]
        exact j6 i i0 (by omega)
theorem s_5 {t r : Int} (hB : isRb B) (h0 : 0 ≤ t) (h1 : t < 8) (hr : inR (-(M (ckA B t) 3))) (hQ : ∀ v, (r = 0 → v = -(M (ckA B t) 3)) → (r = 1 → v = M (ckA B t) 9) → (¬ r = 0 → ¬ r = 1 → v = M (ckA B t) 16) → Q none (mset M (ckA B t) 15 v)) : Mq sx L K0 R0 5 [vR (ckA B t + 2), vI r] M Q := by
  have hk := isCk_A hB h0 h1
  exact m_5 (b_5_0 hk ⟨fun q => b_5_1 hk ⟨fun q2 => b_5_2 hk (b_5_3 hk (b_5_4 hk (hQ _ (fun w => absurd w q) (fun w => absurd w q2) (fun _ _ => rfl)))), fun q2 => b_5_3 hk (b_5_4 hk (hQ _ (fun w => absurd w q) (fun _ => rfl) (fun _ w => absurd (by omega) w)))⟩, fun q => ⟨hr, b_5_4 hk (hQ _ (fun _ => rfl) (fun w => by omega) (fun w _ => absurd (by omega) w))⟩⟩)
end
