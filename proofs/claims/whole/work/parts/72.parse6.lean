section
variable {sx : Int → Int} {L : Nat} {M : Mem} {Q : Option AV → Mem → Prop} {x : Int → Int} {n h a : Int} {z : Int × Int} {c : Nat}
theorem wkS_B {k : Nat} (ha : 0 ≤ a) (hk : ∀ j : Nat, j < k → scF x n h a j = -1) : 0 ≤ wkS x n a k ∧ wkS x n a k ≤ k * 9 := by
  unfold wkS
  refine sumI_0 fun j j0 j1 => ?_
  have s := sc_ok ha (hk j.toNat (by omega))
  rw [Int.toNat_of_nonneg j0] at s
  split <;> omega
theorem s_24 {k : Nat} (hc : isPl c) (hh : h ≤ 6) (h9 : 9 ≤ a) (hn : n ≤ 60) (hk : ∀ j : Nat, j < k → scF x n h a j = -1) (sc : scF x n h a k = -1) (st : StC x n a M c k)
    (hQ : ∀ M', StC x n a M' c (k + 1) → (∀ c' i, ¬ (c' = c ∧ 9 ≤ i) → ¬ c' = c + 2 → ¬ c' = c + 3 → M' c' i = M c' i) → Q none M') : Mq sx L K0 R0 24 [vR (c + 2), vI (skK x n a k + 1), vI (skA x n a k)] M Q := by
  have k17 := kb_le h9 hn hk
  have s := sc_ok (by omega) sc
  have hB := hs_B (by omega) hh k hk
  have wB := wkS_B (by omega) hk
  obtain ⟨s1, s2, s3, s4, s5⟩ := st
  have n2 : ¬ c = c + 2 := by omega
  have n3 : ¬ c = c + 3 := by omega
  have n23 : ¬ c + 2 = c + 3 := by omega
  -- what is known before the last look
  have fin : ∀ M3 : Mem, M3 c 9 = k + 1 → M3 c 10 = wkS x n a (k + 1) → M3 c 11 = tkS x n a (k + 1) → M3 c 12 = hsF x n a (k + 1) → (∀ i, M3 (c + 2) i = mset M (c + 2) k (skK x n a k + 1) (c + 2) i) → (∀ i, M3 (c + 3) i = mset M (c + 3) k (skA x n a k) (c + 3) i) → (∀ c' i, ¬ (c' = c ∧ 9 ≤ i) → ¬ c' = c + 2 → ¬ c' = c + 3 → M3 c' i = M c' i) → Q none M3 := by
    intro M3 a1 a2 a3 a4 a5 a6 a7
    refine hQ M3 ⟨by rw [a1]; omega, a2, a3, a4, fun j hj => ?_⟩ a7
    rw [a5, a6]
    by_cases e : j = k
    · rw [e, ms_eq, ms_eq]; exact ⟨rfl, rfl⟩
    · rw [ms_k (by omega), ms_k (by omega)]; exact s5 j (by omega)
  refine m_24 (b_24_0 hc ⟨fun q => absurd q (by omega), fun _ => ⟨fun _ => b_24_2 hc ?_, fun q => absurd (by omega) q⟩⟩)
  have e9 : mset M (c + 2) k (skK x n a k + 1) c 9 = k := by rw [ms_c n2]; exact s1
  have e9' : mset (mset M (c + 2) k (skK x n a k + 1)) (c + 3) k (skA x n a k) c 9 = k := by rw [ms_c n3, ms_c n2]; exact s1
  rw [s1, e9, e9']
  have x9 : mset (mset (mset M (c + 2) k (skK x n a k + 1)) (c + 3) k (skA x n a k)) c 9 (k + 1) c 9 = k + 1 := ms_eq
  have xo : ∀ i, ¬ i = 9 → mset (mset (mset M (c + 2) k (skK x n a k + 1)) (c + 3) k (skA x n a k)) c 9 (k + 1) c i = M c i := fun i q => by rw [ms_k q, ms_c n3, ms_c n2]
  have x2 : ∀ i, mset (mset (mset M (c + 2) k (skK x n a k + 1)) (c + 3) k (skA x n a k)) c 9 (k + 1) (c + 2) i = mset M (c + 2) k (skK x n a k + 1) (c + 2) i := fun i => by rw [ms_c (by omega), ms_c (by omega)]
  have x3 : ∀ i, mset (mset (mset M (c + 2) k (skK x n a k + 1)) (c + 3) k (skA x n a k)) c 9 (k + 1) (c + 3) i = mset M (c + 3) k (skA x n a k) (c + 3) i := fun i => by
    rw [ms_c (by omega)]
    by_cases e : i = k
    · rw [e, ms_eq, ms_eq]
    · rw [ms_k e, ms_k e, ms_c (by omega)]
  have xf : ∀ c' i, ¬ (c' = c ∧ 9 ≤ i) → ¬ c' = c + 2 → ¬ c' = c + 3 → mset (mset (mset M (c + 2) k (skK x n a k + 1)) (c + 3) k (skA x n a k)) c 9 (k + 1) c' i = M c' i := fun c' i q r t => by rw [ms_ne (by omega), ms_c t, ms_c r]
  generalize mset (mset (mset M (c + 2) k (skK x n a k + 1)) (c + 3) k (skA x n a k)) c 9 (k + 1) = M1 at x9 xo x2 x3 xf ⊢
  have w1 : wkS x n a (k + 1) = wkS x n a k + if skK x n a k = 0 then skA x n a k else 0 := rfl
  have t1 := tkS_s (x := x) (n := n) (a := a) (k := k) s.2.1 (fun w => by omega)
  have h1 : hsF x n a (k + 1) = if skK x n a k = 0 then hsF x n a k else if skK x n a k = 2 then clrB (hsF x n a k) (skA x n a k) else iOr (hsF x n a k) (1 * 2 ^ (skA x n a k).toNat) := rfl
  refine ⟨⟨by omega, by omega⟩, ⟨by omega, by omega⟩, ⟨by omega, by omega⟩, fun q => b_24_3 hc ⟨fun q2 => b_24_4 hc ⟨pow30 s.2.1 (by omega), b_24_5 hc ?_⟩, fun q2 => ⟨pow30 s.2.1 (by omega), pow30 s.2.1 (by omega), b_24_5 hc ?_⟩⟩, fun q => ⟨?_, b_24_5 hc ?_⟩⟩
  · have k2 : skK x n a k = 2 := by omega
    rw [if_neg (by omega), Int.add_zero] at w1
    rw [if_neg (by omega)] at t1
    rw [if_neg (by omega), if_pos k2] at h1
    refine fin _ (by rw [ms_k (by omega)]; exact x9) (by rw [ms_k (by omega), xo 10 (by omega), w1]; exact s2) (by rw [ms_k (by omega), xo 11 (by omega), t1]; exact s3) (by rw [ms_eq, xo 12 (by omega), s4, h1]; rfl) (fun i => by rw [ms_c (by omega)]; exact x2 i) (fun i => by rw [ms_c (by omega)]; exact x3 i) (fun c' i q r t => by rw [ms_ne (by omega)]; exact xf c' i q r t)
  · have k1 : skK x n a k = 1 := by omega
    rw [if_neg (by omega), Int.add_zero] at w1
    rw [if_pos k1] at t1
    rw [if_neg (by omega), if_neg (by omega)] at h1
    refine fin _ (by rw [ms_k (by omega), ms_k (by omega)]; exact x9) (by rw [ms_k (by omega), ms_k (by omega), xo 10 (by omega), w1]; exact s2) (by rw [ms_k (by omega), ms_eq, xo 11 (by omega), s3, t1]) (by rw [ms_eq, ms_k (by omega), xo 12 (by omega), s4, h1]) (fun i => by rw [ms_c (by omega), ms_c (by omega)]; exact x2 i) (fun i => by rw [ms_c (by omega), ms_c (by omega)]; exact x3 i) (fun c' i q r t => by rw [ms_ne (by omega), ms_ne (by omega)]; exact xf c' i q r t)
  · rw [xo 10 (by omega), s2]; exact ⟨by omega, by omega⟩
  · have k0 : skK x n a k = 0 := by omega
    rw [if_pos k0] at w1
    rw [if_neg (by omega)] at t1
    rw [if_pos k0] at h1
    refine fin _ (by rw [ms_k (by omega)]; exact x9) (by rw [ms_eq, xo 10 (by omega), w1, s2]) (by rw [ms_k (by omega), xo 11 (by omega), t1]; exact s3) (by rw [ms_k (by omega), xo 12 (by omega), h1]; exact s4) (fun i => by rw [ms_c (by omega)]; exact x2 i) (fun i => by rw [ms_c (by omega)]; exact x3 i) (fun c' i q r t => by rw [ms_ne (by omega)]; exact xf c' i q r t)
theorem s_21 {k : Nat} (hc : isPl c) (hT : TC x n M c) (hn : n ≤ 60) (hh : h ≤ 6) (h9 : 9 ≤ a) (ha : a ≤ 60) (hk : ∀ j : Nat, j < k → scF x n h a j = -1) (st : StC x n a M c k) (e3 : M c 3 = -1) (e2 : M c 2 = a + 3 * k)
    (hQ1 : scF x n h a k = -1 → ∀ M', M' c 3 = -1 → M' c 2 = a + 3 * k + 2 → StC x n a M' c (k + 1) → Fp3 c M M' → Q none M')
    (hQ2 : ¬ scF x n h a k = -1 → ∀ M', M' c 3 = scF x n h a k → Fp2 c M M' → Q none M') : Mq sx L K0 R0 21 [vR (c + 2), vI h] M Q := by
  have k17 := kb_le h9 hn hk
  have hB := hs_B (by omega) hh k hk
  rw [scF_e] at hQ1 hQ2
  have eK : skK x n a k = kdB (byt x n (a + 3 * k)) := rfl
  have eA : skA x n a k = byt x n (a + 3 * k + 1) - 48 := rfl
  refine m_21 (b_21_0 hc ⟨fun _ => b_21_1 hc ?_, fun q => absurd e3 q⟩)
  rw [e2]
  refine s_17 hc hT hn (by omega) ⟨_, rfl, s_22 ⟨_, rfl, ?_⟩⟩
  rw [← eK]
  by_cases y : skK x n a k = -1
  · rw [if_pos y] at hQ2 ⊢
    refine ⟨fun q => absurd rfl q, fun _ => hQ2 (by omega) _ ?_ (Fp2.rfl'.set (by omega))⟩
    rw [ms_eq]; exact e2
  · rw [if_neg y] at hQ1 hQ2 ⊢
    have kk : skK x n a k = 0 ∨ skK x n a k = 1 ∨ skK x n a k = 2 := by
      rw [eK] at y ⊢
      unfold kdB at y ⊢
      split at y
      · next q => rw [if_pos q]; exact Or.inl rfl
      · next q =>
        rw [if_neg q]
        split at y
        · next q2 => rw [if_pos q2]; exact Or.inr (Or.inl rfl)
        · next q2 =>
          rw [if_neg q2]
          split at y
          · next q3 => rw [if_pos q3]; exact Or.inr (Or.inr rfl)
          · exact absurd rfl y
    refine ⟨fun _ => b_21_2 hc ?_, fun q => absurd q (by omega)⟩
    rw [e2]
    refine ⟨⟨by omega, by omega⟩, s_18 hc hT hn (by omega) ⟨_, rfl, ?_⟩⟩
    -- the figure
    have last : ∀ f : Int, (f = if isD (byt x n (a + 3 * k + 1)) = true then byt x n (a + 3 * k + 1) - 48 else -1) → Mq sx L K0 R0 23 [vR (c + 2), vI (skK x n a k + 1), vI f, vI h] M (fun rv M2 => ∃ r2, rv = some (vI r2) ∧ ((¬ r2 = (0 : Int) → Rn sx L K0 R0 21 3 [vR (c + 2), vI h, vI (skK x n a k + 1), vI f] [] M2 Q) ∧ (¬ (¬ r2 = (0 : Int)) → inR ((M2 c 2) + 1) ∧ (Q none (mset M2 c 3 ((M2 c 2) + 1)))))) := by
      intro f hf
      have fr : -1 ≤ f ∧ f ≤ 9 := by
        rw [hf]
        split
        · next d => have := isD_iff.mp d; omega
        · omega
      have same : (0 ≤ f ∧ if skK x n a k = 0 then 1 ≤ f else f < h ∧ (tb (hsF x n a k) f = true ↔ skK x n a k = 2)) ↔ (isD (byt x n (a + 3 * k + 1)) = true ∧ (if skK x n a k = 0 then 1 ≤ skA x n a k else skA x n a k < h ∧ (tb (hsF x n a k) (skA x n a k) = true ↔ skK x n a k = 2))) := by
        by_cases d : isD (byt x n (a + 3 * k + 1)) = true
        · rw [if_pos d] at hf
          have fe : f = skA x n a k := hf
          have := isD_iff.mp d
          rw [fe]
          exact ⟨fun w => ⟨d, w.2⟩, fun w => ⟨by omega, w.2⟩⟩
        · rw [if_neg d] at hf
          exact ⟨fun w => by omega, fun w => absurd w.1 d⟩
      refine s_23 hc kk hB fr st.2.2.2.1 fun r hr => ⟨_, rfl, fun q => ?_, fun q => ?_⟩
      · have w := same.mp (hr.resolve_right (fun v => q v.1)).2
        rw [if_pos w] at hQ1
        have d := isD_iff.mp w.1
        rw [if_pos w.1] at hf
        have fe : f = skA x n a k := hf
        rw [fe]
        refine b_21_3 hc ?_
        rw [e2]
        have sc : scF x n h a k = -1 := by rw [scF_e, if_neg y, if_pos w]
        have F1 : Fp2 c M (mset M c 2 (a + 3 * k + 2)) := Fp2.rfl'.set (by omega)
        refine ⟨⟨by omega, by omega⟩, s_24 hc hh h9 hn hk sc (st.fr F1) fun M3 st3 f3 => ⟨rfl, hQ1 rfl M3 ?_ ?_ st3 (F1.three.tr fun c' i q r t => f3 c' i (fun w => q ⟨w.1, by omega⟩) r t)⟩⟩
        · rw [f3 _ _ (by omega) (by omega) (by omega), ms_k (by omega)]; exact e3
        · rw [f3 _ _ (by omega) (by omega) (by omega), ms_eq]
      · have w : ¬ (isD (byt x n (a + 3 * k + 1)) = true ∧ (if skK x n a k = 0 then 1 ≤ skA x n a k else skA x n a k < h ∧ (tb (hsF x n a k) (skA x n a k) = true ↔ skK x n a k = 2))) := fun v => by
          have := same.mpr v
          rcases hr with hr | hr
          · omega
          · exact hr.2 this
        rw [if_neg w] at hQ2
        rw [e2]
        exact ⟨⟨by omega, by omega⟩, hQ2 (by omega) _ ms_eq (Fp2.rfl'.set (by omega))⟩
    exact last _ rfl
/-- what is known of a plan that was read -/
def PlT (x : Int → Int) (n h : Int) (M : Mem) (c : Nat) : Prop := M c 1 = n ∧ M c 3 = ftF x n h ∧ M c 4 = nuW x n (hd1 x n) ∧ M c 5 = nuW x n (hd2 x n) ∧ M c 6 = nuW x n (hd3 x n) ∧ StC x n (a0F x n) M c (stN x n h)
def FpT (c : Nat) (M M' : Mem) : Prop := ∀ c' k, ¬ (c' = c ∧ 2 ≤ k) → ¬ c' = c + 2 → ¬ c' = c + 3 → M' c' k = M c' k
theorem FpT.rfl' : FpT c M M := fun _ _ _ _ _ => rfl
theorem FpT.tr {M1 M2 : Mem} (f : FpT c M M1) (g : FpT c M1 M2) : FpT c M M2 := fun c' k q r s => (g c' k q r s).trans (f c' k q r s)
theorem FpT.set {M1 : Mem} {k v : Int} (f : FpT c M M1) (hk : 2 ≤ k) : FpT c M (mset M1 c k v) := fun c' k' q r s => by
  rw [ms_ne (fun e => q ⟨e.1, by omega⟩), f c' k' q r s]
theorem Fp3.pt {M1 : Mem} (f : Fp3 c M M1) : FpT c M M1 := fun c' k q r s => f c' k (fun w => q ⟨w.1, by omega⟩) r s
theorem s_15l (hc : isPl c) (hn : n ≤ 60) (hh : h ≤ 6) (h9 : 9 ≤ a) (ha : a ≤ 60) (M0 : Mem) : ∀ (m k : Nat) (M : Mem), k + 1 + m = 20 → TC x n M c → M c 3 = -1 → M c 2 = a + 3 * k + 2 → a + 3 * k + 2 ≤ n → StC x n a M c (k + 1) → (∀ j : Nat, j < k + 1 → scF x n h a j = -1) → Fp3 c M0 M →
    (∀ M' x2, TC x n M' c → M' c 3 = (if a + 3 * k + 2 < n then (if byt x n (a + 3 * k + 2) = 44 then prs x n h a m (k + 1) else (a + 3 * k + 2, k + 1)) else (-1, k + 1)).1 → StC x n a M' c (if a + 3 * k + 2 < n then (if byt x n (a + 3 * k + 2) = 44 then prs x n h a m (k + 1) else (a + 3 * k + 2, k + 1)) else (-1, k + 1)).2 → Fp3 c M0 M' → Rn sx L K0 R0 15 2 [vR (c + 2), vI h, vI x2] [] M' Q) → Rn sx L K0 R0 15 1 [vR (c + 2), vI h, vI (k + 1)] [] M Q := by
  intro m
  induction m with
  | zero =>
    intro k M hk _ _ _ _ _ hs _ _
    have := kb_le h9 hn hs
    omega
  | succ m ih =>
    intro k M hk hT e3 e2 le st hs hF hQ
    have k17 := kb_le h9 hn hs
    refine b_15_1 hc ⟨fun q => absurd q (by omega), fun _ => ?_⟩
    rw [e3, hT.1, e2]
    refine ⟨fun q => absurd rfl q, fun _ => ⟨fun q => ?_, fun q => ?_⟩⟩
    · rw [if_neg (by omega)] at hQ
      exact hQ M _ hT e3 st hF
    · rw [if_pos (by omega)] at hQ
      refine s_19 (z := (-1, a + 3 * k + 2)) hc hT hn ⟨e3, fun _ => e2⟩ ⟨by dsimp only; omega, by dsimp only; omega, by dsimp only; omega, by dsimp only; omega⟩ fun M1 Z1 f1 => ⟨rfl, ?_⟩
      have T1 := hT.fr f1
      have st1 := st.fr f1
      unfold exP at Z1
      rw [if_pos rfl] at Z1
      dsimp only at Z1
      by_cases g : byt x n (a + 3 * k + 2) = 44
      · rw [if_pos g] at Z1 hQ
        obtain ⟨y3, y2⟩ := Z1
        have y2 := y2 rfl
        refine s_21 (k := k + 1) hc T1 hn hh h9 ha hs st1 y3 (by dsimp only at y2; omega) (fun sc M2 g3 g2 st2 f2 => ⟨rfl, ⟨by omega, by omega⟩, ?_⟩) (fun sc M2 g3 f2 => ⟨rfl, ⟨by omega, by omega⟩, ?_⟩)
        · simp only [prs] at hQ
          rw [if_neg (fun w => w sc)] at hQ
          have sk := (sc_ok (by omega) sc).1
          have := ih (k + 1) M2 (by omega) (T1.fr3 f2) g3 g2 (by omega) st2 (fun j hj => by
            by_cases e : j = k + 1
            · rw [e]; exact sc
            · exact hs j (by omega)) ((hF.tr f1.three).tr f2) hQ
          rw [show (((k + 1 : Nat) : Int)) + 1 = (k : Int) + 1 + 1 by omega] at this
          exact this
        · simp only [prs] at hQ
          rw [if_pos sc] at hQ
          refine b_15_1 hc ⟨fun _ => hQ M2 _ (T1.fr f2) g3 (st1.fr f2) ((hF.tr f1.three).tr f2.three), fun _ => ⟨fun _ => hQ M2 _ (T1.fr f2) g3 (st1.fr f2) ((hF.tr f1.three).tr f2.three), fun w => absurd g3 (by omega)⟩⟩
      · rw [if_neg g] at Z1 hQ
        obtain ⟨y3, y2⟩ := Z1
        dsimp only at y3
        refine m_21 (b_21_0 hc ⟨fun w => by omega, fun _ => ⟨rfl, ⟨by omega, by omega⟩, ?_⟩⟩)
        refine b_15_1 hc ⟨fun _ => hQ M1 _ T1 y3 st1 (hF.tr f1.three), fun _ => ⟨fun _ => hQ M1 _ T1 y3 st1 (hF.tr f1.three), fun w => absurd y3 (by omega)⟩⟩
theorem s_15 (hc : isPl c) (hT : TC x n M c) (hn0 : 0 ≤ n) (hn : n ≤ 60) (hh0 : 0 ≤ h) (hh : h ≤ 6) (hQ : ∀ M', PlT x n h M' c → TC x n M' c → FpT c M M' → Q none M') : Mq sx L K0 R0 15 [vR (c + 2), vI h] M Q := by
  obtain ⟨B1, B2, B3, B4⟩ := hd_B (x := x) hn0
  have clear : ∀ M1 : Mem, ∀ Q : Option AV → Mem → Prop, (∀ M', (∀ c' i, ¬ (c' = c ∧ 9 ≤ i) → M' c' i = M1 c' i) → M' c 9 = 0 → M' c 10 = 0 → M' c 11 = 0 → M' c 12 = 0 → Q none M') → Mq sx L K0 R0 16 [vR (c + 2)] M1 Q := by
    intro M1 Q hQ
    refine m_16 (b_16_0 hc (hQ _ (fun c' i q => ?_) ?_ ?_ ?_ ms_eq))
    · rw [ms_ne (by omega), ms_ne (by omega), ms_ne (by omega), ms_ne (by omega)]
    · rw [ms_k (by omega), ms_k (by omega), ms_k (by omega), ms_eq]
    · rw [ms_k (by omega), ms_k (by omega), ms_eq]
    · rw [ms_k (by omega), ms_eq]
  have F0 : FpT c M (mset (mset M c 2 0) c 3 (-1)) := (FpT.rfl'.set (by omega)).set (by omega)
  refine m_15 (b_15_0 hc (clear _ _ fun M1 f1 q9 q10 q11 q12 => ⟨rfl, ?_⟩))
  have T1 : TC x n M1 c := by
    refine ⟨?_, fun j a b => ?_⟩
    · rw [f1 _ _ (by omega), ms_k (by omega), ms_k (by omega)]; exact hT.1
    · rw [f1 _ _ (by omega), ms_c (by omega), ms_c (by omega)]; exact hT.2 j a b
  have Z1 : CZ (-1, 0) M1 c := ⟨by rw [f1 _ _ (by omega), ms_eq], fun _ => by rw [f1 _ _ (by omega), ms_k (by omega), ms_eq]⟩
  have F1 : FpT c M M1 := F0.tr fun c' k q r s => f1 c' k (fun w => q ⟨w.1, by omega⟩)
  have Zs : ZB n (-1, 0) := ⟨by dsimp only; omega, by dsimp only; omega, by dsimp only; omega, by dsimp only; omega⟩
  have c1 := nuP_B (x := x) (lo := 1) (hi := 60) B1
  have c1' := exP_B (x := x) (c := 44) (by omega) c1
  have c2 := nuP_B (x := x) (lo := 1) (hi := 99) B2
  have c2' := exP_B (x := x) (c := 44) (by omega) c2
  have c3 := nuP_B (x := x) (lo := 0) (hi := 99) B3
  refine s_20 (by omega) hc T1 hn Z1 Zs fun M2 Z2 f2 => ⟨_, rfl, ?_⟩
  have T2 : TC x n (mset M2 c 4 (nuW x n (hd1 x n))) c := ⟨by rw [ms_k (by omega)]; exact (T1.fr f2).1, fun j a b => by rw [ms_c (by omega)]; exact (T1.fr f2).2 j a b⟩
  have Z2' : CZ (nuP x n 1 60 (hd1 x n)) (mset M2 c 4 (nuW x n (hd1 x n))) c := ⟨by rw [ms_k (by omega)]; exact Z2.1, fun w => by rw [ms_k (by omega)]; exact Z2.2 w⟩
  refine s_19 hc T2 hn Z2' c1 fun M3 Z3 f3 => ⟨rfl, ?_⟩
  have T3 := T2.fr f3
  refine s_20 (by omega) hc T3 hn Z3 c1' fun M4 Z4 f4 => ⟨_, rfl, ?_⟩
  have T4 : TC x n (mset M4 c 5 (nuW x n (hd2 x n))) c := ⟨by rw [ms_k (by omega)]; exact (T3.fr f4).1, fun j a b => by rw [ms_c (by omega)]; exact (T3.fr f4).2 j a b⟩
  have Z4' : CZ (nuP x n 1 99 (hd2 x n)) (mset M4 c 5 (nuW x n (hd2 x n))) c := ⟨by rw [ms_k (by omega)]; exact Z4.1, fun w => by rw [ms_k (by omega)]; exact Z4.2 w⟩
  refine s_19 hc T4 hn Z4' c2 fun M5 Z5 f5 => ⟨rfl, ?_⟩
  have T5 := T4.fr f5
  refine s_20 (by omega) hc T5 hn Z5 c2' fun M6 Z6 f6 => ⟨_, rfl, ?_⟩
  have T6 : TC x n (mset M6 c 6 (nuW x n (hd3 x n))) c := ⟨by rw [ms_k (by omega)]; exact (T5.fr f6).1, fun j a b => by rw [ms_c (by omega)]; exact (T5.fr f6).2 j a b⟩
  have Z6' : CZ (nuP x n 0 99 (hd3 x n)) (mset M6 c 6 (nuW x n (hd3 x n))) c := ⟨by rw [ms_k (by omega)]; exact Z6.1, fun w => by rw [ms_k (by omega)]; exact Z6.2 w⟩
  refine s_19 hc T6 hn Z6' c3 fun M7 Z7 f7 => ⟨rfl, ?_⟩
  have T7 := T6.fr f7
  have Z7' : CZ (hd4 x n) M7 c := Z7
  have p4 : M7 c 4 = nuW x n (hd1 x n) := by
    rw [f7 _ _ (by omega), ms_k (by omega), f6 _ _ (by omega), f5 _ _ (by omega), ms_k (by omega), f4 _ _ (by omega), f3 _ _ (by omega), ms_eq]
    rfl
  have p5 : M7 c 5 = nuW x n (hd2 x n) := by
    rw [f7 _ _ (by omega), ms_k (by omega), f6 _ _ (by omega), f5 _ _ (by omega), ms_eq]
    rfl
  have p6 : M7 c 6 = nuW x n (hd3 x n) := by rw [f7 _ _ (by omega), ms_eq]; rfl
  have g9 : ∀ i, 9 ≤ i → M7 c i = M1 c i := fun i q => by
    rw [f7 _ _ (by omega), ms_k (by omega), f6 _ _ (by omega), f5 _ _ (by omega), ms_k (by omega), f4 _ _ (by omega), f3 _ _ (by omega), ms_k (by omega), f2 _ _ (by omega)]
  have F7 : FpT c M M7 := ((((((((F1.tr f2.three.pt).set (k := 4) (v := nuW x n (hd1 x n)) (by omega)).tr f3.three.pt).tr f4.three.pt).set (k := 5) (v := nuW x n (hd2 x n)) (by omega)).tr f5.three.pt).tr f6.three.pt).set (k := 6) (v := nuW x n (hd3 x n)) (by omega)).tr f7.three.pt
  have S7 : ∀ a, StC x n a M7 c 0 := fun a => ⟨by rw [g9 9 (by omega)]; exact q9, by rw [g9 10 (by omega)]; exact q10, by rw [g9 11 (by omega), q11]; unfold tkS; simp only [exB]; decide, by rw [g9 12 (by omega)]; exact q12, fun j hj => by omega⟩
  clear Z7 Z6 Z6' Z5 Z4 Z4' Z3 Z2 Z2' Z1 T6 T5 T4 T3 T2 T1 F1 F0 f1 f2 f3 f4 f5 f6 f7 g9
  -- the end
  have fin2 : ∀ (M' : Mem) (x2 f : Int) (k : Nat), TC x n M' c → M' c 3 = f → (M' c 4 = nuW x n (hd1 x n) ∧ M' c 5 = nuW x n (hd2 x n) ∧ M' c 6 = nuW x n (hd3 x n)) → FpT c M M' → (f = -1 → StC x n (a0F x n) M' c k ∧ (wkS x n (a0F x n) k = 0 → ftF x n h = n) ∧ (¬ wkS x n (a0F x n) k = 0 → ftF x n h = -1 ∧ stN x n h = k)) → (¬ f = -1 → ftF x n h = f) → Rn sx L K0 R0 15 2 [vR (c + 2), vI h, vI x2] [] M' Q := by
    intro M' x2 f k T' e3 pp F' ok nf
    have bad : ∀ M2 : Mem, TC x n M2 c → M2 c 3 = ftF x n h → ¬ ftF x n h = -1 → (M2 c 4 = nuW x n (hd1 x n) ∧ M2 c 5 = nuW x n (hd2 x n) ∧ M2 c 6 = nuW x n (hd3 x n)) → FpT c M M2 → Rn sx L K0 R0 15 3 [vR (c + 2), vI h, vI x2] [] M2 Q := by
      intro M2 T2 e3 nz pp F2
      have s0 : stN x n h = 0 := by unfold stN; rw [if_neg nz]
      refine b_15_3 hc ⟨fun w => absurd (by rw [← e3]; exact w) nz, fun _ => clear _ _ fun M3 f3 r9 r10 r11 r12 => ⟨rfl, b_15_4 hc (hQ M3 ⟨?_, ?_, ?_, ?_, ?_, ?_⟩ ⟨?_, fun j a b => ?_⟩ (F2.tr fun c' i q r s => f3 c' i (fun w => q ⟨w.1, by omega⟩)))⟩⟩
      · rw [f3 _ _ (by omega)]; exact T2.1
      · rw [f3 _ _ (by omega)]; exact e3
      · rw [f3 _ _ (by omega)]; exact pp.1
      · rw [f3 _ _ (by omega)]; exact pp.2.1
      · rw [f3 _ _ (by omega)]; exact pp.2.2
      · rw [s0]
        exact ⟨r9, r10, by rw [r11]; unfold tkS; simp only [exB]; decide, r12, fun j hj => by omega⟩
      · rw [f3 _ _ (by omega)]; exact T2.1
      · rw [f3 _ _ (by omega)]; exact T2.2 j a b
    refine b_15_2 hc ?_
    rw [e3]
    refine ⟨fun w => bad M' T' (by rw [e3, nf w]) (by rw [nf w]; exact w) pp F', fun w => ?_⟩
    have w' := Decidable.not_not.mp w
    obtain ⟨st, o1, o2⟩ := ok w'
    rw [st.2.1]
    refine ⟨fun v => b_15_3 hc ⟨fun _ => b_15_4 hc (hQ M' ⟨T'.1, ?_, pp.1, pp.2.1, pp.2.2, ?_⟩ T' F'), fun u => absurd (by rw [e3]; exact w') u⟩, fun v => ?_⟩
    · rw [e3, w', (o2 v).1]
    · rw [(o2 v).2]; exact st
    · have z := o1 (Decidable.not_not.mp v)
      rw [T'.1]
      refine bad _ ⟨by rw [ms_k (by omega)]; exact T'.1, fun j a b => by rw [ms_c (by omega)]; exact T'.2 j a b⟩ (by rw [ms_eq, z]) (by omega) ?_ (F'.set (by omega))
      rw [ms_k (by omega), ms_k (by omega), ms_k (by omega)]; exact pp
  by_cases hf : (hd4 x n).1 = -1
  · have hd := hd_ok hn0 hf
    have aN : a0F x n ≤ n := B4.2.2.2
    have e2 : M7 c 2 = a0F x n := Z7'.2 hf
    have e3 : M7 c 3 = -1 := by rw [Z7'.1]; exact hf
    have eft : ftF x n h = if ¬ (stF' x n h).1 = -1 then (stF' x n h).1 else if wkS x n (a0F x n) (stF' x n h).2 = 0 then n else -1 := by unfold ftF; rw [if_neg (fun w => w hf)]
    have epr : stF' x n h = prs x n h (a0F x n) (19 + 1) 0 := rfl
    have stn : ftF x n h = -1 → stN x n h = (stF' x n h).2 := fun w => by unfold stN; rw [if_pos w]
    have gen : ∀ (M' : Mem) x2, TC x n M' c → M' c 3 = (stF' x n h).1 → StC x n (a0F x n) M' c (stF' x n h).2 → Fp3 c M7 M' → Rn sx L K0 R0 15 2 [vR (c + 2), vI h, vI x2] [] M' Q := by
      intro M' x2 T' e3' st F'
      refine fin2 M' x2 _ _ T' e3' ?_ (F7.tr F'.pt) (fun w => ⟨st, fun v => ?_, fun v => ?_⟩) (fun w => ?_)
      · rw [F' _ _ (by omega) (by omega) (by omega), F' _ _ (by omega) (by omega) (by omega), F' _ _ (by omega) (by omega) (by omega)]
        exact ⟨p4, p5, p6⟩
      · rw [eft, if_neg (fun u => u w), if_pos v]
      · have := eft
        rw [if_neg (fun u => u w), if_neg v] at this
        exact ⟨this, stn this⟩
      · rw [eft, if_pos w]
    rw [epr] at gen
    clear epr eft stn fin2
    simp only [prs] at gen
    refine s_21 (k := 0) hc T7 hn hh hd.1 (by omega) (fun j hj => by omega) (S7 _) e3 (by rw [e2]; omega) (fun sc M8 g3 g2 st f8 => ⟨rfl, ?_⟩) (fun sc M8 g3 f8 => ⟨rfl, ?_⟩)
    · rw [if_neg (fun w => w sc)] at gen
      have sk := (sc_ok (by omega) sc).1
      exact s_15l hc hn hh hd.1 (by omega) M7 19 0 M8 (by omega) (T7.fr3 f8) g3 g2 (by omega) st (fun j hj => by
        have : j = 0 := by omega
        rw [this]; exact sc) f8 gen
    · rw [if_pos sc] at gen
      refine b_15_1 hc ⟨fun w => absurd w (by omega), fun _ => ⟨fun _ => gen M8 _ (T7.fr f8) g3 ((S7 _).fr f8) f8.three, fun w => absurd g3 (by omega)⟩⟩
  · have e3 : M7 c 3 = (hd4 x n).1 := Z7'.1
    have eft : ftF x n h = (hd4 x n).1 := by unfold ftF; rw [if_pos hf]
    refine m_21 (b_21_0 hc ⟨fun w => absurd (by rw [← e3]; exact w) hf, fun _ => ⟨rfl, ?_⟩⟩)
    refine b_15_1 hc ⟨fun w => absurd w (by omega), fun _ => ⟨fun _ => fin2 M7 _ _ 0 T7 e3 ⟨p4, p5, p6⟩ F7 (fun w => absurd w hf) (fun _ => eft), fun w => absurd (by rw [← e3]; omega) hf⟩⟩
end
