/-! what to drop: the class and the reference -/
section
variable {sx : Int → Int} {L : Nat} {M M1 N : Mem} {A : Int} {Q : Option AV → Mem → Prop} {SR : (Mem → Prop) × (Mem → Prop)}
def FxS (M N : Mem) : Prop := ∀ c k, ¬ (75 ≤ c ∧ c ≤ 100) → ¬ (c = 74 ∧ 6 ≤ k ∧ k ≤ 9) → N c k = M c k
theorem FxS.s (f : FxS M N) : FxC M N := fun c k q => f c k (by omega) (by omega)
theorem FxS.tr {N' : Mem} (f : FxS M N) (g : FxS N N') : FxS M N' := fun c k a b => (g c k a b).trans (f c k a b)
/-- the class's trial while it drops -/
def TrD (M N : Mem) (b : Int) : Prop := (∃ A', TrG M N A' (M 104 22) (M 104 23) (fun t => M 111 t) (fun _ => 0)) ∧ (∀ t, 0 ≤ t → t < 8 → N 99 t = M 112 t) ∧ N 74 7 = b ∧ N 74 8 = wsF M (sdF (areB M) b) ∧ N 74 9 = onF b
theorem s_64 {x b : Int} (hb : BASE M) (x0 : 0 ≤ x) (x1 : x < 256) (hx : subI x (areB M)) (hd : TrD M M1 b) (hQ : ∀ M2 b', FxS M1 M2 → TrD M M2 b' → (shP M x b ∧ b' = x ∨ ¬ shP M x b ∧ b' = b) → Q none M2) : Mq sx L K0 R0 64 [vR 76, vI x] M1 Q := by
  obtain ⟨⟨A', tr⟩, d1, d2, d3, d4⟩ := hd
  obtain ⟨g1, g2, g3, g4, g5, g6, g7, g8, g9, g10, g11, g12, g13⟩ := hb.2.2.2.2.1
  have xB : inB x := ⟨x0, by omega⟩
  have sB : inB (sdF (areB M) x) := andn_B areB_B xB
  have e60 : M1 6 0 = areB M := by rw [tr.1.a (c := 6) (by omega)]; exact hb.2.2.2.2.2
  refine m_64 (b_64_0 ?_)
  rw [e60]
  have f2 : ∀ c k, ¬ (c = 97 ∧ k = 0) → mset M1 97 0 (sdF (areB M) x) c k = M1 c k := fun c k q => ms_ne q
  have tr2 : TrG M (mset M1 97 0 (sdF (areB M) x)) (sdF (areB M) x) (M 104 22) (M 104 23) (fun t => M 111 t) (fun _ => 0) := by
    obtain ⟨v1, v2, v3, v4, v5, v6, v7, v8⟩ := tr
    refine ⟨v1.tr fun c k q => f2 c k (by unfold baseC at q; omega), ms_eq, by rw [f2 _ _ (by omega)]; exact v3, by rw [f2 _ _ (by omega)]; exact v4, by rw [f2 _ _ (by omega)]; exact v5, by rw [f2 _ _ (by omega)]; exact v6, by rw [f2 _ _ (by omega)]; exact v7, fun i a b => ?_⟩
    rw [f2 _ _ (by omega), f2 _ _ (by omega)]; exact v8 i a b
  have m99 : ∀ t, 0 ≤ t → t < 8 → mset M1 97 0 (sdF (areB M) x) 99 t = M 112 t := fun t a b => by rw [f2 _ _ (by omega)]; exact d1 t a b
  have m74 : ∀ k, mset M1 97 0 (sdF (areB M) x) 74 k = M1 74 k := fun k => f2 _ _ (by omega)
  have fx2 : FxS M1 (mset M1 97 0 (sdF (areB M) x)) := fun c k a b => f2 c k (by omega)
  have e970 : mset M1 97 0 (sdF (areB M) x) 97 0 = sdF (areB M) x := ms_eq
  generalize mset M1 97 0 (sdF (areB M) x) = M2 at tr2 m99 m74 fx2 e970 ⊢
  have keep : TrD M M2 b := ⟨⟨_, tr2⟩, m99, by rw [m74]; exact d2, by rw [m74]; exact d3, by rw [m74]; exact d4⟩
  refine lpI (N := 8) (G := fun k => Rn sx L K0 R0 64 1 [vR 76, vI x, vI (sumI k.toNat fun t => if tb (sdF (areB M) x) t = true then M 112 t else 0), vI k] [] M2 Q) (fun k k0 k1 ih => ?_) (b_64_1 ⟨fun _ => b_64_3 ?_, fun q => absurd (Int.le_refl _) q⟩) 0 (by omega) (by omega)
  · rw [sumI_s k0] at ih
    have r := hb.2.2.1 k k0 k1
    obtain ⟨r1, r2, r3, r4, r5, r6, r7⟩ := r
    have hs := sumI_0 (n := k.toNat) (f := fun t => if tb (sdF (areB M) x) t = true then M 112 t else 0) (b := 100) fun t t0 t1 => by
      have r := hb.2.2.1 t t0 (by omega)
      obtain ⟨r1, r2, r3, r4, r5, r6, r7⟩ := r
      show 0 ≤ (if tb (sdF (areB M) x) t = true then M 112 t else 0) ∧ (if tb (sdF (areB M) x) t = true then M 112 t else 0) ≤ 100
      split <;> omega
    generalize (sumI k.toNat fun t => if tb (sdF (areB M) x) t = true then M 112 t else 0) = sm at hs ih ⊢
    refine b_64_1 ⟨fun q => absurd q (by omega), fun _ => s_78G (S := 97) (Or.inr rfl) (by rw [e970]; exact sB) k0 k1 fun r hr => ⟨r, rfl, fun q => b_64_2 ⟨⟨by omega, by omega⟩, ?_⟩, fun q => ⟨⟨k0, k1⟩, ?_⟩⟩⟩
    · rw [e970] at hr
      have hf : tb (sdF (areB M) x) k = false := by
        rcases hr with z | z
        · omega
        · exact z.1
      rw [hf, if_neg (by decide), Int.add_zero] at ih
      exact ih
    · rw [e970] at hr
      have hf : tb (sdF (areB M) x) k = true := by
        rcases hr with z | z
        · exact z.1
        · omega
      rw [hf, if_pos rfl] at ih
      rw [m99 k k0 k1]
      exact ⟨⟨by omega, by omega⟩, b_64_2 ⟨⟨by omega, by omega⟩, ih⟩⟩
  show Mq sx L K0 R0 226 [vI x] M2 _
  have e1 : (sumI (8 : Int).toNat fun t => if tb (sdF (areB M) x) t = true then M 112 t else 0) = wsF M (sdF (areB M) x) := rfl
  rw [e1]
  have no : ¬ btr M x b → Q none M2 := fun w => hQ M2 b fx2 keep (Or.inr ⟨fun z => w z.2.1, rfl⟩)
  have yes : btr M x b → Rn sx L K0 R0 64 5 [vR 76, vI x, vI (wsF M (sdF (areB M) x)), vI (onF x)] [] M2 Q := by
    intro w
    have e977 : M2 97 7 = M 104 25 := by rw [tr2.2.2.2.2.2.1, g12]
    refine b_64_5 ?_
    rw [e977]
    refine s_36G hb tr2 (OKS hb xB) (by omega) g11 fun M3 g f3 tr3 => ⟨rfl, fun q => b_64_6 (hQ M3 b (fx2.tr fun c k a _ => f3 c k (by unfold outB; omega)) ⟨⟨_, tr3⟩, fun t a b => ?_, ?_, ?_, ?_⟩ (Or.inr ⟨fun z => z.2.2 (g.2.1.mp ?_), rfl⟩)), fun q => b_64_6 (hQ _ x (fun c k a b => ?_) ⟨⟨_, tr3.fr (fun c k q => ?_) fun c k q => ?_⟩, fun t a b => ?_, ?_, ?_, ?_⟩ (Or.inl ⟨⟨hx, w, fun z => ?_⟩, rfl⟩))⟩
    · rw [f3 _ _ (by unfold outB; omega)]; exact m99 t a b
    · rw [f3 _ _ (by unfold outB; omega)]; exact keep.2.2.1
    · rw [f3 _ _ (by unfold outB; omega)]; exact keep.2.2.2.1
    · rw [f3 _ _ (by unfold outB; omega)]; exact keep.2.2.2.2
    · rcases g.1 with z | z
      · exact absurd z q
      · exact z
    · rw [ms_ne (by omega), ms_ne (by omega), ms_ne (by omega), f3 _ _ (by unfold outB; omega)]
      exact fx2 c k a b
    · rw [ms_ne (by unfold baseC at q; omega), ms_ne (by unfold baseC at q; omega), ms_ne (by unfold baseC at q; omega)]
    · rw [ms_ne (by omega), ms_ne (by omega), ms_ne (by omega)]
    · rw [ms_ne (by omega), ms_ne (by omega), ms_ne (by omega), f3 _ _ (by unfold outB; omega)]
      exact m99 t a b
    · rw [ms_k (by omega), ms_k (by omega), ms_eq]
    · rw [ms_k (by omega), ms_eq]
    · exact ms_eq
    · have := g.2.1.mpr z
      have := Decidable.not_not.mp q
      omega
  refine s_226 x0 x1 ⟨_, rfl, ?_⟩
  have k8 : M2 74 8 = wsF M (sdF (areB M) b) := keep.2.2.2.1
  have k9 : M2 74 9 = onF b := keep.2.2.2.2
  rw [k8, k9]
  refine ⟨fun q => b_64_4 (no fun w => ?_), fun q => ⟨fun q2 => yes (Or.inl (by omega)), fun q2 => ⟨fun q3 => yes (Or.inr ⟨Decidable.not_not.mp q2, q3⟩), fun q3 => b_64_4 (no fun w => ?_)⟩⟩⟩
  · rcases w with w | w <;> omega
  · rcases w with w | w <;> omega
theorem s_63 (hb : BASE M) (hk : KS M) (hQ : ∀ M', FxS M M' → M' 74 7 = shF M 256 → M' 74 8 = wsF M (sdF (areB M) (shF M 256)) → Q none M') : Mq sx L K0 R0 63 [vR 76] M Q := by
  have al := are_lt (M := M)
  have aB := areB_B (M := M)
  refine m_63 (b_63_0 ⟨fun q => b_63_1 (s_75 fun M0 as f0 => ⟨rfl, ?_⟩), fun q => ?_⟩)
  · have as' : AsS M M0 := ⟨fun k hk => by rw [as.1 k hk, ms_c (by omega)], fun i a b => by
      have := as.2 i a b
      rw [ms_c (by omega), ms_c (by omega), ms_c (by omega)] at this
      exact this⟩
    have b0 : BFr M M0 := fun c k q => by rw [f0 c k (by unfold baseC at q; omega), ms_c (by unfold baseC at q; omega)]
    have e60 : M0 6 0 = areB M := by rw [b0.a (c := 6) (by omega)]; exact hb.2.2.2.2.2
    rw [ms_c (by omega), ms_c (by omega), e60]
    refine s_226 al.1 al.2 ⟨_, rfl, ?_⟩
    have f1 : ∀ c k, ¬ (c = 74 ∧ 6 ≤ k ∧ k ≤ 9) → mset (mset (mset M0 74 7 (areB M)) 74 8 0) 74 9 (onF (areB M)) c k = M0 c k := fun c k q => by rw [ms_ne (by omega), ms_ne (by omega), ms_ne (by omega)]
    have tr1 : TrD M (mset (mset (mset M0 74 7 (areB M)) 74 8 0) 74 9 (onF (areB M))) (areB M) := by
      refine ⟨⟨_, (as'.tr hb b0).fr (fun c k q => f1 c k (by unfold baseC at q; omega)) fun c k q => f1 c k (by omega)⟩, fun t a b => ?_, ?_, ?_, ms_eq⟩
      · rw [f1 _ _ (by omega), (as'.2 t a b).2.1]
        exact (hb.2.2.1 t a b).2.2.2.2.2.1
      · rw [ms_k (by omega), ms_k (by omega), ms_eq]
      · rw [ms_k (by omega), ms_eq, ws_0 (sd_self aB)]
    have fx1 : FxS M (mset (mset (mset M0 74 7 (areB M)) 74 8 0) 74 9 (onF (areB M))) := fun c k a b => by
      rw [f1 c k b, f0 c k (by omega), ms_ne (by omega)]
    refine lpM (N := 256) (I := fun k M1 => FxS M M1 ∧ TrD M M1 (shF M k.toNat)) (G := fun k M1 => Rn sx L K0 R0 63 2 [vR 76, vI k] [] M1 Q) (fun k M1 k0 k1 hI ih => ?_) (fun M1 hI => b_63_2 ⟨fun _ => b_63_4 (hQ M1 hI.1 hI.2.2.2.1 hI.2.2.2.2.1), fun q => absurd (Int.le_refl _) q⟩) 0 _ (by omega) (by omega) ⟨fx1, tr1⟩
    obtain ⟨i1, i2⟩ := hI
    have e60 : M1 6 0 = areB M := by rw [i1.s.bf.a (c := 6) (by omega)]; exact hb.2.2.2.2.2
    have kk : ((k.toNat : Nat) : Int) = k := Int.toNat_of_nonneg k0
    rw [show (k + 1).toNat = k.toNat + 1 by omega] at ih
    refine b_63_2 ⟨fun q => absurd q (by omega), fun _ => ?_⟩
    rw [e60]
    have sb := sub_andn (x := k) ⟨k0, by omega⟩ aB
    refine ⟨fun q => b_63_3 ⟨⟨by omega, by omega⟩, ih M1 ⟨i1, ?_⟩⟩, fun q => s_64 hb k0 k1 (sb.mp (Decidable.not_not.mp q)) i2 fun M2 b' f2 d2 h2 => ⟨rfl, b_63_3 ⟨⟨by omega, by omega⟩, ih M2 ⟨i1.tr f2, ?_⟩⟩⟩⟩
    · rw [shF_n fun w => q (sb.mpr (by have := w.1; rw [kk] at this; exact this))]
      exact i2
    · rcases h2 with ⟨w, e⟩ | ⟨w, e⟩
      · rw [shF_y (by rw [kk]; exact w), kk, ← e]; exact d2
      · rw [shF_n (by rw [kk]; exact w), ← e]; exact d2
  · rcases hk with w | w
    · exact absurd w q
    · exact hQ M (fun _ _ _ _ => rfl) w.1 w.2
theorem s_206 {b : Int} (hb : BASE M) (bB : inB b) (hQ : Q (some (vI (wsF M b))) M) : Mq sx L K0 R0 206 [vR 106, vI b] M Q := by
  refine m_206 (b_206_0 (lpI (N := 8) (G := fun k => Rn sx L K0 R0 206 1 [vR 106, vI b, vI (sumI k.toNat fun t => if tb b t = true then M 112 t else 0), vI k] [] M Q) (fun k k0 k1 ih => ?_) (b_206_1 ⟨fun _ => b_206_4 hQ, fun q => absurd (Int.le_refl _) q⟩) 0 (by omega) (by omega)))
  rw [sumI_s k0] at ih
  have r := hb.2.2.1 k k0 k1
  obtain ⟨r1, r2, r3, r4, r5, r6, r7⟩ := r
  have hs := sumI_0 (n := k.toNat) (f := fun t => if tb b t = true then M 112 t else 0) (b := 100) fun t t0 t1 => by
    have r := hb.2.2.1 t t0 (by omega)
    obtain ⟨r1, r2, r3, r4, r5, r6, r7⟩ := r
    show 0 ≤ (if tb b t = true then M 112 t else 0) ∧ (if tb b t = true then M 112 t else 0) ≤ 100
    split <;> omega
  generalize (sumI k.toNat fun t => if tb b t = true then M 112 t else 0) = sm at hs ih ⊢
  have e := bt_eq (i := k) bB
  cases hA : tb b k
  · rw [hA, if_neg (by decide)] at e ih
    exact b_206_1 ⟨fun q => absurd q (by omega), fun _ => ⟨⟨bB.1, k0, by omega⟩, fun _ => b_206_2 (b_206_3 ⟨⟨by omega, by omega⟩, ⟨by omega, by omega⟩, ih⟩), fun q => absurd (by omega) q⟩⟩
  · rw [hA, if_pos rfl] at e ih
    exact b_206_1 ⟨fun q => absurd q (by omega), fun _ => ⟨⟨bB.1, k0, by omega⟩, fun q => absurd e q, fun _ => ⟨⟨k0, k1⟩, b_206_3 ⟨⟨by omega, by omega⟩, ⟨by omega, by omega⟩, ih⟩⟩⟩⟩
/-- the reference, over the sets among -/
theorem s_207 {w : Int} (hs : SROK SR) (h : INVM SR M) (w0 : 0 ≤ w) (w1 : w ≤ 1) (hQ0 : w = 0 → ∀ N, INVM SR N → Q (some (vI (shF M 256))) N) (hQ1 : ¬ w = 0 → ∀ N, INVM SR N → Q (some (vI (wsF M (sdF (areB M) (shF M 256))))) N) : Mq sx L K0 R0 207 [vR 106, vI w] M Q := by
  have hb := h.1.1
  have aB := areB_B (M := M)
  have al := are_lt (M := M)
  obtain ⟨g1, g2, g3, g4, g5, g6, g7, g8, g9, g10, g11, g12, g13⟩ := hb.2.2.2.2.1
  refine m_207 (b_207_0 (s_137 fun r1 hr1 => ⟨r1, rfl, fun _ => b_207_1 ?_, fun q => absurd (by omega) q⟩))
  refine s_154 (I := INVM SR) (fun M h => h.1.1) (fun Q hQ => s_150i hs h hQ) fun M1 h1 e1 r1 f1 => ⟨_, rfl, ?_⟩
  have sd : ∀ x, 0 ≤ x → x < 256 → inB (sdF (areB M) x) := fun x a b => andn_B aB ⟨a, by omega⟩
  -- the end
  have fin : ∀ N s u6, cat2 u6 = false → BFr M N → INVM SR N → Rn sx L K0 R0 207 2 [vR 106, vI w, vI (areB M), vI (shF M 256), vI s, vI 0, u6] [] N Q := by
    intro N s u6 h6 bf hI
    have sh := shF_B (M := M) 256 (Nat.le_refl _)
    refine b_207_2 h6 ⟨fun _ => b_207_12 h6 ⟨fun q => b_207_13 h6 (s_206 (hb.fr bf) (sd _ sh.1 sh.2.1) ⟨_, rfl, b_207_14 h6 ?_⟩), fun q => b_207_14 h6 (hQ0 (Decidable.not_not.mp q) N hI)⟩, fun q => absurd rfl q⟩
    rw [(shF_bm hb bf).1]
    exact hQ1 q N hI
  -- from a set on
  suffices H : ∀ d : Nat, ∀ (s : Int) (N : Mem) (u6 : AV), 256 - s ≤ d → 0 ≤ s → s < 256 → subI s (areB M) → cat2 u6 = false → BFr M N → INVM SR N → Rn sx L K0 R0 207 2 [vR 106, vI w, vI (areB M), vI (shF M s.toNat), vI s, vI 1, u6] [] N Q from H 256 0 M1 vU (by omega) (by omega) (by omega) (fun i _ q => by rw [tb_zero] at q; cases q) rfl f1.bf h1
  intro d
  induction d with
  | zero => intro s N u6 a b c; omega
  | succ d ih =>
    intro s N u6 hd s0 s1 hsub h6 bf hI
    have ss : ((s.toNat : Nat) : Int) = s := Int.toNat_of_nonneg s0
    have sh := shF_B (M := M) s.toNat (by omega)
    obtain ⟨x0, x1, x2, x3⟩ := sh
    rw [ss] at x2
    have ew := (shF_bm hb bf).1
    -- behind the try
    have go : ∀ b N6 y6, b = shF M (s.toNat + 1) → BFr M N6 → INVM SR N6 → Rn sx L K0 R0 207 9 [vR 106, vI w, vI (areB M), vI b, vI s, vI 1, vI y6] [] N6 Q := by
      intro b N6 y6 eb b6 i6
      obtain ⟨n0, n1, n2, n3⟩ := nx_set al.1 al.2 s0 s1 hsub
      refine b_207_9 ⟨⟨by omega, by omega⟩, fun q => b_207_10 (b_207_11 ?_), fun q => b_207_11 ?_⟩
      · rw [if_pos q] at n3
        have e := shF_skip (M := M) (n := s.toNat + 1) (256 - (s.toNat + 1)) fun m a c => n3 m (by omega) (by omega)
        rw [show s.toNat + 1 + (256 - (s.toNat + 1)) = 256 by omega] at e
        rw [eb, ← e]
        exact fin N6 _ _ rfl b6 i6
      · rw [if_neg q] at n3
        obtain ⟨q1, q2⟩ := n2 q
        have e := shF_skip (M := M) (n := s.toNat + 1) ((iAnd (s - areB M) (areB M)).toNat - (s.toNat + 1)) fun m a c => n3 m (by omega) (by omega)
        rw [show s.toNat + 1 + ((iAnd (s - areB M) (areB M)).toNat - (s.toNat + 1)) = (iAnd (s - areB M) (areB M)).toNat by omega] at e
        rw [eb, ← e]
        exact ih _ N6 _ (by omega) n0 q2 n1 rfl b6 i6
    have six : ∀ x6 y, (0 < y ↔ btr M s (shF M s.toNat)) → Rn sx L K0 R0 207 6 [vR 106, vI w, vI (areB M), vI (shF M s.toNat), vI s, vI 1, vI x6] [vI y] N Q := by
      intro x6 y hy
      have iff : shP M (s.toNat : Nat) (shF M s.toNat) ↔ btr M s (shF M s.toNat) ∧ ¬ ltS M s := by
        unfold shP
        rw [ss]
        exact ⟨fun z => z.2, fun z => ⟨hsub, z⟩⟩
      refine b_207_6 ⟨fun q => go _ N _ ?_ bf hI, fun q => s_159G hs hI.1 bf fun N2 as2 i2 f2 => ⟨rfl, ?_⟩⟩
      · rw [shF_n fun z => by have := hy.mpr (iff.mp z).1; omega]
      · have fx : FxR N2 (mset N2 104 27 (sdF (areB M) s)) := FxR.rfl'.set (by omega)
        have as3 : AsG M (mset N2 104 27 (sdF (areB M) s)) (sdF (areB M) s) (M 104 22) (M 104 23) (fun t => M 111 t) (fun _ => 0) := by
          obtain ⟨b1, b2, b3, b4, b5, b6, b7, b8⟩ := id as2
          exact as2.up fx (ms_k (by omega)) ms_eq (by rw [ms_k (by omega)]; exact b7) (by rw [ms_k (by omega)]; exact b8) fun t x y => by rw [ms_c (by omega), ms_c (by omega)]; exact b5 t x y
        refine s_201G hs hb (OKS hb ⟨s0, by omega⟩) as3 (i2.fx hs fx) fun r N3 r0 rl res as4 i4 e26 fx4 _ _ => ⟨_, rfl, fun q2 => b_207_7 (b_207_8 (go _ N3 _ ?_ as4.1 ⟨i4, Or.inl e26⟩)), fun q2 => b_207_8 (go _ N3 _ ?_ as4.1 ⟨i4, Or.inl e26⟩)⟩
        · rw [shF_n fun z => (iff.mp z).2 (rl.mp (by omega))]
        · rw [shF_y (iff.mpr ⟨hy.mp (by omega), fun z => by have := rl.mpr z; omega⟩), ss]
    have eb1 : wsF N (iAnd (areB M) (iXor s (-1))) = wsF M (sdF (areB M) s) := ew _
    have eb2 : wsF N (iAnd (areB M) (iXor (shF M s.toNat) (-1))) = wsF M (sdF (areB M) (shF M s.toNat)) := ew _
    have wb1 := wsF_B (M := M) (b := sdF (areB M) s) hb
    have wb2 := wsF_B (M := M) (b := sdF (areB M) (shF M s.toNat)) hb
    have ob1 := onF_B (b := s)
    have ob2 := onF_B (b := shF M s.toNat)
    refine b_207_2 h6 ⟨fun q => absurd q (by omega), fun _ => s_206 (hb.fr bf) (sd s s0 s1) ⟨_, rfl, s_206 (hb.fr bf) (sd _ x0 x1) ⟨_, rfl, ⟨by omega, by omega⟩, fun q => b_207_3 (b_207_4 ⟨fun _ => b_207_5 (six _ _ ?_), fun q2 => absurd q q2⟩), fun q => s_138 ⟨x0, by omega⟩ ⟨_, rfl, s_138 ⟨s0, by omega⟩ ⟨_, rfl, ⟨by omega, by omega⟩, b_207_4 ⟨fun q2 => b_207_5 (six _ _ ?_), fun q2 => ⟨⟨by omega, by omega⟩, six _ _ ?_⟩⟩⟩⟩⟩⟩⟩
    · unfold btr; omega
    · unfold btr; omega
    · unfold btr
      have q3 := Decidable.not_not.mp q
      have q4 := Decidable.not_not.mp q2
      constructor
      · intro z
        rcases x2 with x2 | x2
        · have := on_eq al.1 al.2 s0 s1 hsub (by rw [x2] at q4; omega)
          omega
        · omega
      · intro z; omega
end
