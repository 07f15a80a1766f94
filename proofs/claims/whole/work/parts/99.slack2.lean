/-! slack: the reference -/
section
variable {sx : Int → Int} {L : Nat} {M N : Mem} {Q : Option AV → Mem → Prop} {SR : (Mem → Prop) × (Mem → Prop)}
/-- the reference's memory tries one work step longer -/
def AsK (M N : Mem) (a b k : Int) : Prop := BFr M N ∧ RDok N ∧ N 104 10 = 1 ∧ N 104 27 = areB N ∧ (∀ t, 0 ≤ t → t < 8 → N 121 t = N 111 t ∧ N 122 t = 0) ∧ N 104 30 = a ∧ N 104 31 = b ∧ N 104 33 = N 104 22 ∧ N 104 34 = N 104 23 ∧ N 104 32 = k
def VK (M : Mem) (a b k : Int) : Mem := fun c i => if c = 97 then (if i = 8 then a else if i = 9 then b else if i = 10 then k else M 6 i) else if c = 98 then M 7 i else if c = 99 then M 8 i else if c = 100 then M 9 i else M c i
theorem VK_s {a b k : Int} : TrS M (VK M a b k) a b ∧ VK M a b k 97 10 = k := by
  refine ⟨⟨fun c i q => ?_, fun i hi => ?_, fun i _ _ => ⟨rfl, rfl, rfl⟩, rfl, rfl⟩, rfl⟩
  · unfold VK
    rw [if_neg (by unfold baseC at q; omega), if_neg (by unfold baseC at q; omega), if_neg (by unfold baseC at q; omega), if_neg (by unfold baseC at q; omega)]
  · unfold VK
    rw [if_pos rfl, if_neg (by omega), if_neg (by omega), if_neg (by omega)]
theorem AsK.pds {a b k : Int} (hb : BASE M) (h : AsK M N a b k) (k0 : 0 ≤ k) (k1 : k ≤ 21) : PDs N (VK M a b k) 97 := by
  obtain ⟨bf, rd, e10, e27, e12, e30, e31, e33, e34, e32⟩ := h
  obtain ⟨⟨v1, v2, v3, v4, v5⟩, v6⟩ := VK_s (M := M) (a := a) (b := b) (k := k)
  have hbN := hb.fr bf
  obtain ⟨_, _, c, _, ⟨g1, g2, g3, g4, g5, g6, g7, g8, g9, g10, g11, g12, g13⟩, gg⟩ := id hb
  have nv : BFr N (VK M a b k) := bf.sy.tr v1
  have pd0 : PD0 N N := ⟨rfl, rfl, fun _ _ _ => ⟨rfl, rfl, rfl⟩, rfl, rfl, fun t t0 t1 => ⟨by
    obtain ⟨_, h2, h3, h4, h5, _, h7⟩ := rd t t0 t1
    exact ⟨h2, h3, h4, h5, h7⟩, rfl⟩⟩
  have n22 := bf.m (k := 22) (by omega)
  have n23 := bf.m (k := 23) (by omega)
  have n24 := bf.m (k := 24) (by omega)
  have n111 : ∀ t, N 111 t = M 111 t := fun t => bf.a (by omega) t
  refine ⟨pd0.fr nv, ⟨?_, ?_, ?_, ?_, fun t t0 t1 => ?_, by rw [v4, e30], fun _ => ⟨by rw [v5, e31], by rw [v6, e32]⟩⟩, fun t t0 t1 w => ?_, by rw [e27]; exact areB_B, by omega, by omega, by omega, by omega, by omega, by omega, fun t t0 t1 => ?_⟩
  · rw [v2 0 (by omega), e27, gg, bf.are]
  · rw [v2 4 (by omega), e33, g3, n22]
  · rw [v2 5 (by omega), e34, g6, n23]
  · rw [v2 6 (by omega), g9, n24]
  · obtain ⟨x1, _, x3⟩ := v3 t t0 t1
    obtain ⟨r1, r2, r3, r4, r5, r6, r7⟩ := c t t0 t1
    rw [show (97 : Nat) + 1 = 98 from rfl, show (97 : Nat) + 3 = 100 from rfl, x1, x3, (e12 t t0 t1).1, (e12 t t0 t1).2, n111]
    exact ⟨r3, r7⟩
  · rw [e27] at w
    rw [nv.are]; exact w
  · obtain ⟨r1, r2, r3, r4, r5, r6, r7⟩ := c t t0 t1
    rw [(e12 t t0 t1).1, (e12 t t0 t1).2, n111]
    omega
theorem s_205 {a b : Int} (hs : SROK SR) (hb : BASE M) (hQ : ∀ k N, 0 ≤ k → k ≤ 21 → (∀ i, 0 ≤ i → i < k → ¬ lateK M a b i) → (k = 21 ∨ lateK M a b k) → INV0 SR N → N 104 26 = 0 → Q (some (vI (k - 1))) (mset N 104 30 (-1))) : ∀ N, AsK M N a b 0 → INV0 SR N → Rn sx L K0 R0 205 6 [vR 106, vI a, vI b] [] N Q := by
  obtain ⟨g1, g2, g3, g4, g5, g6, g7, g8, g9, g10, g11, g12, g13⟩ := hb.2.2.2.2.1
  have out : ∀ k N, 0 ≤ k → k ≤ 21 → N 104 32 = k → (∀ i, 0 ≤ i → i < k → ¬ lateK M a b i) → (k = 21 ∨ lateK M a b k) → INV0 SR N → N 104 26 = 0 → Rn sx L K0 R0 205 7 [vR 106, vI a, vI b] [] N Q := fun k N k0 k1 e h1 h2 h3 h4 => by
    refine b_205_7 ?_
    rw [ms_k (by omega), e]
    exact ⟨⟨by omega, by omega⟩, hQ k N k0 k1 h1 h2 h3 h4⟩
  intro N hN hI
  refine lpM (N := 21) (I := fun k N => AsK M N a b k ∧ INV0 SR N ∧ (k = 0 ∨ N 104 26 = 0) ∧ ∀ i, 0 ≤ i → i < k → ¬ lateK M a b i) (G := fun k N => Rn sx L K0 R0 205 6 [vR 106, vI a, vI b] [] N Q) (fun k N k0 k1 hJ ih => ?_) (fun N hJ => ?_) 0 N (by omega) (by omega) ⟨hN, hI, Or.inl rfl, fun i a b => by omega⟩
  · obtain ⟨ak, i0, _, nl⟩ := hJ
    have e32 := ak.2.2.2.2.2.2.2.2.2
    have pds := ak.pds hb k0 (by omega)
    obtain ⟨tr, vk⟩ := VK_s (M := M) (a := a) (b := b) (k := k)
    have hbV := hb.fr tr.1
    obtain ⟨pv, _, _⟩ := pds.ok hbV
    have n25 : N 104 25 = M 104 25 := ak.1.m (by omega)
    refine b_205_6 ⟨fun q => absurd q (by omega), fun _ => s_201 pv (by omega) fun s0 N' hi h26 f => ⟨_, rfl, ?_⟩⟩
    have iff := lt_ind (S := 97) (Or.inr rfl) hbV pds (PK_ok hb tr vk k0 (by omega)) hi s00_ok (T := M 104 25) (by omega) g11
    have ri := rn_R pv hi (N 104 25).toNat (by omega)
    rw [n25] at ri ⊢
    rw [Int.toNat_of_nonneg (by omega)] at ri
    have nn : 0 ≤ ltA N (rnF N s0 (M 104 25).toNat) (M 104 25) := (sumI_0 (n := 8) (f := ltF N (rnF N s0 (M 104 25).toNat) (M 104 25)) (b := 120) (fun t x y => ltF_B ri x (by omega))).1
    have fm : FrM N N' := fun c i p q => f c i (by unfold runC; omega) (by omega)
    have keep : ∀ c i, (113 ≤ c ∧ c ≤ 122 ∨ c = 104 ∧ (i = 10 ∨ i = 27 ∨ 30 ≤ i ∧ i ≤ 34)) → N' c i = N c i := fun c i q => f c i (by unfold runC; omega) (by omega)
    have i1 : INV0 SR N' := i0.fm hs fm (keep _ _ (by omega)) (keep _ _ (by omega)) fun c i q => keep c i (by omega)
    have e32' : N' 104 32 = k := by rw [keep _ _ (by omega)]; exact e32
    refine ⟨fun q => out k N' k0 (by omega) e32' nl (Or.inr (iff.mp (by omega))) i1 h26, fun q => ?_⟩
    rw [e32']
    refine ⟨⟨by omega, by omega⟩, ih _ ⟨?_, ?_, Or.inr (by rw [ms_k (by omega)]; exact h26), fun i x y => ?_⟩⟩
    · obtain ⟨bf, rd, e10, e27, e12, e30, e31, e33, e34, _⟩ := ak
      have b' : BFr N (mset N' 104 32 (k + 1)) := fun c i q => by
        rw [ms_ne (by unfold baseC at q; omega)]
        exact fm.bf c i q
      have K : ∀ c i, (113 ≤ c ∧ c ≤ 122 ∨ c = 104 ∧ (i = 10 ∨ i = 27 ∨ 30 ≤ i ∧ i ≤ 34 ∧ ¬ i = 32)) → mset N' 104 32 (k + 1) c i = N c i := fun c i q => by
        rw [ms_ne (by omega)]
        exact keep c i (by omega)
      refine ⟨bf.tr b', rd.fr b' fun c i q => K c i (by omega), by rw [K _ _ (by omega)]; exact e10, by rw [K _ _ (by omega), b'.are]; exact e27, fun t t0 t1 => ?_, by rw [K _ _ (by omega)]; exact e30, by rw [K _ _ (by omega)]; exact e31, by rw [K _ _ (by omega), b'.m (k := 22) (by omega)]; exact e33, by rw [K _ _ (by omega), b'.m (k := 23) (by omega)]; exact e34, ms_eq⟩
      rw [K 121 t (by omega), K 122 t (by omega), b'.a (c := 111) (by omega)]
      exact e12 t t0 t1
    · exact by
        obtain ⟨y1, y2, y3, y4, y5, y6, y7⟩ := i1
        have b' : BFr N' (mset N' 104 32 (k + 1)) := fun c i q => ms_ne (by unfold baseC at q; omega)
        refine ⟨y1.fr b', ?_, by rw [ms_eq]; omega, y4.fr b' fun c i q => ms_ne (by omega), hs.1 _ _ y5 b' fun c i q => ms_ne (by omega), hs.2.2 _ _ y6 fun c i q => ms_ne (by omega), FND.fr y7 (ms_k (by omega)) (ms_c (by omega))⟩
        unfold RDI
        rw [ms_k (by omega)]
        exact y2.imp id fun w => ⟨w.1, w.2.fr b' fun c i q => ms_c (by omega)⟩
    · by_cases e : i = k
      · rw [e]
        exact fun w => by have := iff.mpr w; omega
      · exact nl i x (by omega)
  · obtain ⟨ak, i0, e26, nl⟩ := hJ
    have e32 := ak.2.2.2.2.2.2.2.2.2
    exact b_205_6 ⟨fun _ => out 21 N (by omega) (by omega) e32 nl (Or.inl rfl) i0 (by omega), fun q => absurd (by omega) q⟩
end
