/-! the class: a whole run -/
section
variable {sx : Int → Int} {L : Nat} {P s z M : Mem} {τ T : Int} {Q : Option AV → Mem → Prop} {B S : Nat}
theorem comesF_c {c : Nat} (h : 133 < c ∨ c < 123 ∨ c = 131) : ∀ n : Nat, comesF P τ n s c = s c := by
  intro n
  induction n with
  | zero => rfl
  | succ n ih =>
    simp only [comesF]
    rw [cmC_c (by omega) (by omega), cmB_c (by omega) (by omega) (by omega) (by omega), cmA_c (by omega) (by omega), ih]
theorem doF_c {i : Int} {c : Nat} (h : 133 < c ∨ c < 126) : ∀ (n : Nat) (s : Mem), (doF P τ i n s).2 c = s c := by
  intro n
  induction n with
  | zero => intro s; simp only [doF]; unfold endF; rw [ms_f (by omega), ms_f (by omega), ms_f (by omega), ms_f (by omega)]
  | succ n ih =>
    intro s
    simp only [doF]
    split
    · dsimp only; rw [ms_f (by omega)]
    · split
      · rw [ih, ms_f (by omega), ms_f (by omega)]
      · split
        · dsimp only; rw [ms_f (by omega), ms_f (by omega)]
        · rw [ih, ms_f (by omega), ms_f (by omega)]
theorem choF_c {c : Nat} (h : 135 < c ∨ c < 126) : ∀ (n : Nat) (g : Int) (s : Mem), choF P τ n g s c = s c := by
  intro n
  induction n with
  | zero => intro g s; simp only [choF]; funext k; unfold filF; rw [if_neg (by omega)]
  | succ n ih =>
    intro g s
    simp only [choF]
    split
    · split
      · rw [ih, ms_f (by omega), doF_c (by omega)]
      · rw [ih, doF_c (by omega)]
    · funext k; unfold filF; rw [if_neg (by omega)]
theorem choF_135 {k : Int} (hk : k < 3 * τ) : ∀ (n : Nat) (g : Int) (s : Mem), 0 ≤ g → choF P τ n g s 135 k = s 135 k := by
  intro n
  induction n with
  | zero => intro g s g0; simp only [choF]; unfold filF; rw [if_neg (by omega)]
  | succ n ih =>
    intro g s g0
    simp only [choF]
    split
    · split
      · rw [ih _ _ (by omega), ms_k (by omega), doF_c (by omega)]
      · rw [ih _ _ g0, doF_c (by omega)]
    · unfold filF; rw [if_neg (by omega)]
/-- jobs that come leave the others -/
theorem comes_J (hp : PV P) (hτ0 : 0 ≤ τ) (hτ : τ < 120) (hI : RI P s τ) : ∀ n : Nat, n ≤ 8 → ∀ t : Int, 0 ≤ t → t < 8 → (∀ j, 0 ≤ j → j < s 123 t → comesF P τ n s 126 (200 * t + j) = s 126 (200 * t + j)) ∧ (comesF P τ n s 123 t = s 123 t ∨ (comesF P τ n s 123 t = s 123 t + 1 ∧ comesF P τ n s 126 (200 * t + s 123 t) = -1)) := by
  intro n
  induction n with
  | zero => exact fun _ t a b => ⟨fun _ _ _ => rfl, Or.inl rfl⟩
  | succ n ih =>
    intro hn t a b
    have CR := comes_R hp hτ0 hτ hI n (by omega)
    have hnt := (CR n (by omega) (by omega)).2 (by omega)
    have e : comesF P τ (n + 1) s = cm1 P τ n (comesF P τ n s) := rfl
    have hs := (hI t a b).1.2.2.1
    have hs0 := (hI t a b).1.1
    have hs1 := (hI t a b).1.2.1
    rw [e]
    obtain ⟨i1, i2⟩ := ih (by omega) t a b
    by_cases q : t = n
    · have same : comesF P τ n s 123 t = s 123 t := by
        have : ∀ m : Nat, m ≤ n → comesF P τ m s 123 n = s 123 n := by
          intro m
          induction m with
          | zero => exact fun _ => rfl
          | succ m im =>
            intro hm
            show cm1 P τ m (comesF P τ m s) 123 n = _
            rw [cm1_k (by omega) (by omega)]
            exact im (by omega)
        rw [q]; exact this n (Nat.le_refl _)
      have x126 : ∀ j, cm1 P τ n (comesF P τ n s) 126 j = cmA P τ n (comesF P τ n s) 126 j := fun j => by
        unfold cm1
        rw [cmC_c (by omega) (by omega), cmB_c (by omega) (by omega) (by omega) (by omega)]
      rw [← q] at x126 ⊢
      have x123 : cm1 P τ t (comesF P τ n s) 123 t = if com P (comesF P τ n s) τ t = true then comesF P τ n s 123 t + 1 else comesF P τ n s 123 t := cm1_123
      by_cases g : com P (comesF P τ n s) τ t = true
      · rw [if_pos g] at x123
        refine ⟨fun j j0 j1 => ?_, Or.inr ⟨by rw [x123, same], ?_⟩⟩
        · rw [x126]
          unfold cmA
          rw [if_pos g, ms_c (by omega), ms_k (by omega)]
          exact i1 j j0 j1
        · rw [x126]
          unfold cmA
          rw [if_pos g, ms_c (by omega), same, ms_eq]
      · rw [if_neg g] at x123
        refine ⟨fun j j0 j1 => ?_, Or.inl (by rw [x123, same])⟩
        rw [x126]
        unfold cmA
        rw [if_neg g]
        exact i1 j j0 j1
    · have sm := cm1_sm (P := P) (τ := τ) hnt.1 q
      refine ⟨fun j j0 j1 => ?_, ?_⟩
      · rw [sm.2 j j0 (by omega)]; exact i1 j j0 j1
      · rw [sm.1 123 (by omega) (by omega) (by omega) (by omega), sm.2 (s 123 t) (by omega) (by omega)]
        exact i2
theorem comes_FL {M1 : Mem} (hp : PV P) (hτ0 : 0 ≤ τ) (hτ : τ < 120) (hI : RI P s τ) (h : FLG P s M B τ) (e : M1 B 17 = M B 17) : FLG P (comesF P τ 8 s) M1 B τ := by
  have J := comes_J hp hτ0 hτ hI 8 (by omega)
  unfold FLG
  rw [e]
  refine ⟨h.1, fun q => (h.2.1 q).up (fun t j a b c d => ?_) hτ0, fun q t j a b c d f => ?_⟩
  · obtain ⟨x, y⟩ := J t a b
    exact ⟨by omega, Or.inl (x j c d)⟩
  · obtain ⟨x, y⟩ := J t a b
    by_cases g : j < s 123 t
    · rw [x j c g] at f ⊢
      exact h.2.2 q t j a b c g f
    · exfalso
      rcases y with y | y
      · omega
      · rw [show j = s 123 t by omega] at f
        exact f y.2
theorem s_40 (hB : isRb B) (hp : PV P) (hτ0 : 0 ≤ τ) (hτ : τ < 120) (hC : CPl P M) (hR : CPr P M B T) (hI : MI P z τ) (hz : ∀ t, 0 ≤ t → t < 8 → ¬ z 132 t = 1 ∧ ¬ z 132 t = 2) (hM : ∀ t, 0 ≤ t → t < 8 → CMt P z M B τ t) (h11 : M B 11 = mkB 8 (fun t => decide (¬ z 130 t = 0))) (hK : KI P z M B) (hL : FLG P z M B τ)
    (hQ : ∀ M', CM P (choF P τ 8 0 z) M' B T τ → FLG P (choF P τ 8 0 z) M' B τ → (∀ i, 0 ≤ i → i < P 104 24 → M' (B + 5) (i * 120 + τ) = choF P τ 8 0 z 135 (3 * τ + i)) → FrY B τ M M' → Q none M') : Mq sx L K0 R0 40 [vR (B + 2), vI τ] M Q := by
  have hh := hp.2.2.2.2.2.2.2.1
  have F1 : FrX B M (mset (mset M B 12 0) B 13 0) := (FrX.rfl'.setB (by omega)).setB (by omega)
  refine m_40 (b_40_0 hB (s_92 (hC.fr hB F1.1) hp ⟨_, rfl, ?_⟩))
  have F2 : FrX B M (mset (mset (mset M B 12 0) B 13 0) B 14 (brkB P τ)) := F1.setB (by omega)
  have e11 : mset (mset (mset M B 12 0) B 13 0) B 14 (brkB P τ) B 11 = M B 11 := by rw [ms_k (by omega), ms_k (by omega), ms_k (by omega)]
  have e12 : mset (mset (mset M B 12 0) B 13 0) B 14 (brkB P τ) B 12 = 0 := by rw [ms_k (by omega), ms_k (by omega), ms_eq]
  have e13 : mset (mset (mset M B 12 0) B 13 0) B 14 (brkB P τ) B 13 = 0 := by rw [ms_k (by omega), ms_eq]
  have e14 : mset (mset (mset M B 12 0) B 13 0) B 14 (brkB P τ) B 14 = brkB P τ := ms_eq
  have e17 : mset (mset (mset M B 12 0) B 13 0) B 14 (brkB P τ) B 17 = M B 17 := by rw [ms_k (by omega), ms_k (by omega), ms_k (by omega)]
  have eC : ∀ t k, mset (mset (mset M B 12 0) B 13 0) B 14 (brkB P τ) (ckA B t) k = M (ckA B t) k := fun t k => by rw [ms_c (ck_B (by omega)), ms_c (ck_B (by omega)), ms_c (ck_B (by omega))]
  have eD : ∀ t k, mset (mset (mset M B 12 0) B 13 0) B 14 (brkB P τ) (ckA B t + 1) k = M (ckA B t + 1) k := fun t k => by rw [ms_c (ck1_B (by omega)), ms_c (ck1_B (by omega)), ms_c (ck1_B (by omega))]
  generalize mset (mset (mset M B 12 0) B 13 0) B 14 (brkB P τ) = M1 at F2 e11 e12 e13 e14 e17 eC eD ⊢
  refine lpM (N := 3) (I := fun h M2 => FrY B τ M M2 ∧ (∀ c k, ¬ c = B + 5 → M2 c k = M1 c k) ∧ ∀ i, 0 ≤ i → i < h → M2 (B + 5) (i * 120 + τ) = -1) (G := fun h M2 => Rn sx L K0 R0 40 1 [vR (B + 2), vI τ, vI h, vU, vU] [] M2 Q) (fun h M2 h0 h1 hJ ih => ?_) (fun M2 hJ => b_40_1 hB ⟨fun _ => b_40_2 hB ?_, fun q => absurd (by omega) q⟩) 0 M1 (by omega) (by omega) ⟨F2.y, fun _ _ _ => rfl, fun i a b => by omega⟩
  · obtain ⟨j1, j2, j3⟩ := hJ
    refine b_40_1 hB ⟨fun q => absurd q (by omega), fun _ => ⟨⟨by omega, by omega⟩, ⟨by omega, by omega⟩, ⟨by omega, by omega⟩, ⟨by omega, by omega⟩, ih _ ⟨j1.set5 h0 h1, fun c k q => by rw [ms_c q]; exact j2 c k q, fun i a b => ?_⟩⟩⟩
    by_cases e : i = h
    · rw [e, ms_eq]
    · rw [ms_k (by omega)]; exact j3 i a (by omega)
  · obtain ⟨j1, j2, j3⟩ := hJ
    have z1 : mkB 8 (fun t => decide (z 132 t = 1)) = 0 := by
      rw [mkB_cg (q := fun _ => false) fun t a b => decide_eq_false (hz t a (by omega)).1]; decide
    have z2 : mkB 8 (fun t => decide (z 132 t = 2)) = 0 := by
      rw [mkB_cg (q := fun _ => false) fun t a b => decide_eq_false (hz t a (by omega)).2]; decide
    have nB : ¬ B = B + 5 := by omega
    have := s_40l (sx := sx) (L := L) (T := T) (Q := Q) hB hp hτ0 hτ M 8 0 z M2 vU (by omega) (by omega) (by omega) hI ⟨hC.fr hB j1.1, hR.fy j1, fun t a b => (hM t a b).eq (fun _ _ _ => rfl) (fun k _ => by rw [j2 _ _ (ck_B (by omega)), eC]) (fun k => by rw [j2 _ _ (ck1_B (by omega)), eD]), ⟨by rw [j2 _ _ nB, e11]; exact h11, by rw [j2 _ _ nB, e12, z1], by rw [j2 _ _ nB, e13, z2]⟩, by rw [j2 _ _ nB, e14], hK.mv (fun _ _ _ c => c) (fun _ _ _ => ⟨rfl, rfl⟩) (fun _ _ _ => rfl) (fun t a b => by rw [j2 _ _ (ck_B (by omega)), eC])⟩ (hL.cg rfl rfl (by rw [j2 _ _ nB, e17])) ⟨fun i a b => by omega, fun i a b => j3 i a b⟩ j1 rfl hQ
    rw [show (8 : Int) - ((8 : Nat) : Int) = 0 by omega] at this
    exact this
def CHs (P s M : Mem) (B : Nat) (n : Int) : Prop := ∀ t' h, 0 ≤ t' → t' < n → 0 ≤ h → h < P 104 24 → M (B + 5) (h * 120 + t') = s 135 (3 * t' + h)
/-- what is there when some ticks have been run -/
def RR (P s M : Mem) (B : Nat) (T n : Int) : Prop := CPl P M ∧ CPr P M B T ∧ (∀ t, 0 ≤ t → t < 8 → CBt P s M B t) ∧ CLg s M B n ∧ RGr s M B ∧ FLG P s M B n ∧ CHs P s M B n
theorem comes_n (n : Nat) : ∀ t : Int, 0 ≤ t → t < n → ¬ comesF P τ n s 132 t = 1 ∧ ¬ comesF P τ n s 132 t = 2 := by
  induction n with
  | zero => intro t a b; omega
  | succ n ih =>
    intro t a b
    simp only [comesF]
    by_cases e : t = n
    · rw [e]
      unfold cmC
      rw [ms_c (c' := 132) (by omega), ms_eq]
      exact ⟨by split <;> omega, by split <;> omega⟩
    · rw [cmC_k e, cmB_k e, cmA_c (by omega) (by omega)]
      exact ih t a (by omega)
theorem s_tick (hB : isRb B) (hp : PV P) (hτ0 : 0 ≤ τ) (hτ : τ < 120) (hI : RI P s τ) (hR : RR P s M B T τ)
    {K : Mem → Prop} (hQ : ∀ M', RR P (tickF P s τ) M' B T (τ + 1) → FrB B M M' → K M') : Mq sx L K0 R0 39 [vR (B + 2), vI τ] M (fun rv M1 => rv = none ∧ (Mq sx L K0 R0 40 [vR (B + 2), vI τ] M1 (fun rv M2 => rv = none ∧ (Mq sx L K0 R0 47 [vR (B + 2), vI τ] M2 (fun rv M3 => rv = none ∧ (Mq sx L K0 R0 49 [vR (B + 2), vI τ] M3 (fun rv M4 => rv = none ∧ K M4))))))) := by
  obtain ⟨r1, r2, r3, r4, r5, r6, r7⟩ := hR
  have mi1 := comes_MI hp hτ0 hτ hI
  have mi2 := cho_R hp hτ0 hτ 8 0 _ mi1
  have mi3 := not_R mi2
  refine s_39 hB hp r1 r2 hI r3 hτ0 hτ fun M1 f1 c1 b1 k1 => ⟨rfl, ?_⟩
  have fl1 : FLG P (comesF P τ 8 s) M1 B τ := comes_FL hp hτ0 hτ hI r6 (f1.2.1 17 (by omega))
  refine s_40 hB hp hτ0 hτ (r1.fr hB f1.1) (r2.fx f1) mi1 (fun t a b => comes_n 8 t a (by omega)) c1 b1 k1 fl1 fun M2 c2 fl2 ch2 f2 => ⟨rfl, ?_⟩
  have lg2 : CLg (choF P τ 8 0 (comesF P τ 8 s)) M2 B τ := by
    intro t' a b
    rw [f2.2.2.1 _ _ (by omega) (by omega), f2.2.2.1 _ _ (by omega) (by omega), f2.2.2.1 _ _ (by omega) (by omega), f1.2.2.1 _ _ (by omega) (by omega), f1.2.2.1 _ _ (by omega) (by omega), f1.2.2.1 _ _ (by omega) (by omega), choF_c (by omega), comesF_c (by omega)]
    exact r4 t' a b
  have rg2 : RGr (choF P τ 8 0 (comesF P τ 8 s)) M2 B := by
    unfold RGr
    rw [f2.2.1 15 (by omega) (by omega), f2.2.1 16 (by omega) (by omega), f1.2.1 15 (by omega), f1.2.1 16 (by omega), choF_c (by omega), comesF_c (by omega)]
    exact r5
  refine s_47 hB hτ0 hτ mi2 c2 lg2 rg2 fun M3 c3 lg3 rg3 f3 => ⟨rfl, ?_⟩
  have n123 : ∀ c, ¬ c = 136 → ¬ c = 104 → notF (choF P τ 8 0 (comesF P τ 8 s)) τ c = choF P τ 8 0 (comesF P τ 8 s) c := fun c a b => by
    funext k
    unfold notF
    rw [if_neg (by omega), if_neg (by omega), if_neg (by omega)]
  have fl3 : FLG P (notF (choF P τ 8 0 (comesF P τ 8 s)) τ) M3 B τ := fl2.cg (n123 123 (by omega) (by omega)) (n123 126 (by omega) (by omega)) (f3 _ _ (by omega) (fun w => by omega) (by omega))
  refine s_49 hB hp hτ0 hτ mi3 c3 fl3 fun M4 c4 p4 b4 fl4 f4 => ⟨rfl, hQ M4 ⟨c4, p4, b4, ?_, ?_, fl4, ?_⟩ ?_⟩
  · intro t' a b
    rw [f4.2.2.1 _ _ (by omega) (by omega), f4.2.2.1 _ _ (by omega) (by omega), f4.2.2.1 _ _ (by omega) (by omega)]
    unfold tickF
    rw [wkF_c (by omega)]
    exact lg3 t' a b
  · unfold RGr tickF
    rw [f4.2.1 15 (by omega) (by omega), f4.2.1 16 (by omega) (by omega), wkF_c (by omega)]
    exact rg3
  · intro t' h a b c d
    have hh := hp.2.2.2.2.2.2.2.2.1
    unfold tickF
    rw [f4.2.2.1 _ _ (by omega) (by omega), wkF_c (by omega), n123 135 (by omega) (by omega), f3 _ _ (by omega) (fun w => by obtain ⟨_, t, _, _, e⟩ := w; exact B_ck (by omega) e) (by omega)]
    by_cases e : t' = τ
    · rw [e]; exact ch2 h c d
    · rw [f2.2.2.2.1 _ (fun i i0 i1 => by omega), f1.2.2.1 _ _ (by omega) (by omega), choF_135 (by omega) _ _ _ (by omega), comesF_c (by omega)]
      exact r7 t' h a (by omega) c d
  · refine ((f1.1.tr f2.1).tr (fun c k q => f3 c k (fun w => q (by rw [w.1]; omega)) (fun w => ?_) (fun w => q (by omega)))).tr f4.1
    obtain ⟨_, t, a, b, e⟩ := w
    exact q (by rw [e]; exact ck_in a b)
end
