/-! what holds between two calls -/
def txR (M : Mem) (t : Int) : Int → Int := fun j => if 0 ≤ j ∧ j < M 109 t then M 110 (60 * t + j) else 0
def baseC (c : Nat) (k : Int) : Prop := (1 ≤ c ∧ c ≤ 4) ∨ (6 ≤ c ∧ c ≤ 9) ∨ (11 ≤ c ∧ c ≤ 42) ∨ (105 ≤ c ∧ c ≤ 112) ∨ (c = 0 ∧ k = 8) ∨ (c = 104 ∧ (k = 0 ∨ k = 9 ∨ (22 ≤ k ∧ k ≤ 25)))
def BFr (M M' : Mem) : Prop := ∀ c k, baseC c k → M' c k = M c k
def BThg (M : Mem) : Prop := 0 ≤ M 104 0 ∧ M 104 0 ≤ 6 ∧ M 1 0 = M 104 0 ∧ (∀ h, 0 ≤ h → h < M 104 0 → M 2 h = M 106 h ∧ M 3 h = M 107 h ∧ M 4 h = M 108 h) ∧ M 1 1 = firB M
def BTxt (M : Mem) (t : Int) : Prop := 0 ≤ M 109 t ∧ M 109 t ≤ 60 ∧ TC (txR M t) (M 109 t) M (plA t) ∧ PlT (txR M t) (M 109 t) (M 104 0) M (plA t)
def BRnk (M : Mem) (t : Int) : Prop := 0 ≤ M 111 t ∧ M 111 t ≤ 99 ∧ M 7 t = M 111 t ∧ 0 ≤ M 112 t ∧ M 112 t ≤ 99 ∧ M 8 t = M 112 t ∧ M 9 t = 0
def BRul (M : Mem) : Prop := 0 ≤ M 104 22 ∧ M 104 22 ≤ 2 ∧ M 6 4 = M 104 22 ∧ 0 ≤ M 104 23 ∧ M 104 23 ≤ 2 ∧ M 6 5 = M 104 23 ∧ 1 ≤ M 104 24 ∧ M 104 24 ≤ 3 ∧ M 6 6 = M 104 24 ∧ 1 ≤ M 104 25 ∧ M 104 25 ≤ 120 ∧ M 6 7 = M 104 25 ∧ M 6 8 = -1
def areB (M : Mem) : Int := mkB 8 fun t => decide (ftF (txR M t) (M 109 t) (M 104 0) = -1) && !tb (M 104 9) t
def BASE (M : Mem) : Prop := BThg M ∧ (∀ t, 0 ≤ t → t < 8 → BTxt M t) ∧ (∀ t, 0 ≤ t → t < 8 → BRnk M t) ∧ (0 ≤ M 104 9 ∧ M 104 9 < 256 ∧ M 0 8 = M 104 9) ∧ BRul M ∧ M 6 0 = areB M
def RDok (M : Mem) : Prop := ∀ t, 0 ≤ t → t < 8 → RdT (txR M t) (M 109 t) (M 104 0) M t
/-- parameters that describe what is told -/
def PDt (P M : Mem) (t : Int) : Prop := P 114 t = nuW (txR M t) (M 109 t) (hd1 (txR M t) (M 109 t)) ∧ P 115 t = nuW (txR M t) (M 109 t) (hd2 (txR M t) (M 109 t)) ∧ P 116 t = nuW (txR M t) (M 109 t) (hd3 (txR M t) (M 109 t)) ∧ P 117 t = stN (txR M t) (M 109 t) (M 104 0) ∧ ∀ j : Nat, j < stN (txR M t) (M 109 t) (M 104 0) → P 118 (20 * t + j) = skK (txR M t) (M 109 t) (a0F (txR M t) (M 109 t)) j ∧ P 119 (20 * t + j) = skA (txR M t) (M 109 t) (a0F (txR M t) (M 109 t)) j
/-- besides ranks, rules, what is later, longer, among -/
def PD0 (P M : Mem) : Prop := P 104 0 = M 104 0 ∧ firB P = firB M ∧ (∀ h, 0 ≤ h → h < M 104 0 → P 106 h = M 106 h ∧ P 107 h = M 107 h ∧ P 108 h = M 108 h) ∧ P 104 24 = M 104 24 ∧ P 104 25 = M 104 25 ∧ ∀ t, 0 ≤ t → t < 8 → PDt P M t ∧ P 111 t = M 111 t
def PDs (P M : Mem) (S : Nat) : Prop := PD0 P M ∧ CSt P M S ∧ (∀ t, 0 ≤ t → t < 8 → tb (P 104 27) t = true → tb (areB M) t = true) ∧ inB (P 104 27) ∧ 0 ≤ P 104 33 ∧ P 104 33 ≤ 2 ∧ 0 ≤ P 104 34 ∧ P 104 34 ≤ 2 ∧ 0 ≤ P 104 32 ∧ P 104 32 ≤ 21 ∧ (∀ t, 0 ≤ t → t < 8 → 0 ≤ P 121 t ∧ P 121 t ≤ 99 ∧ 0 ≤ P 122 t ∧ P 122 t ≤ 3)
theorem BFr.rfl' {M : Mem} : BFr M M := fun _ _ _ => rfl
theorem BFr.tr {M M1 M2 : Mem} (f : BFr M M1) (g : BFr M1 M2) : BFr M M2 := fun c k q => (g c k q).trans (f c k q)
theorem BFr.sy {M M1 : Mem} (f : BFr M M1) : BFr M1 M := fun c k q => (f c k q).symm
theorem BFr.a {M M1 : Mem} (f : BFr M M1) {c : Nat} (h : (1 ≤ c ∧ c ≤ 4) ∨ (6 ≤ c ∧ c ≤ 9) ∨ (11 ≤ c ∧ c ≤ 42) ∨ (105 ≤ c ∧ c ≤ 112)) (k : Int) : M1 c k = M c k := f c k (by unfold baseC; omega)
theorem BFr.m {M M1 : Mem} (f : BFr M M1) {k : Int} (h : k = 0 ∨ k = 9 ∨ (22 ≤ k ∧ k ≤ 25)) : M1 104 k = M 104 k := f 104 k (by unfold baseC; omega)
theorem pl_rg {t : Int} (h0 : 0 ≤ t) (h1 : t < 8) : 11 ≤ plA t ∧ plA t + 3 ≤ 42 := by unfold plA; omega
theorem BFr.tx {M M1 : Mem} (f : BFr M M1) (t : Int) : txR M1 t = txR M t := by
  funext j
  unfold txR
  rw [f.a (c := 109) (by omega), f.a (c := 110) (by omega)]
theorem BFr.pl {M M1 : Mem} (f : BFr M M1) {t : Int} (h0 : 0 ≤ t) (h1 : t < 8) (j : Nat) (hj : j < 4) (k : Int) : M1 (plA t + j) k = M (plA t + j) k := f.a (by have := pl_rg h0 h1; omega) k
theorem fir_cg {P M : Mem} (h0 : P 104 0 = M 104 0) (h1 : ∀ h, 0 ≤ h → h < 6 → P 105 h = M 105 h) : firB P = firB M := by
  unfold firB
  refine mkB_cg fun h a b => ?_
  rw [h0, h1 h a (by omega)]
theorem BFr.fir {M M1 : Mem} (f : BFr M M1) : firB M1 = firB M := fir_cg (f.m (by omega)) fun h _ _ => f.a (c := 105) (by omega) h
theorem BFr.are {M M1 : Mem} (f : BFr M M1) : areB M1 = areB M := by
  unfold areB
  refine mkB_cg fun t a b => ?_
  rw [f.tx, f.a (c := 109) (by omega), f.m (k := 0) (by omega), f.m (k := 9) (by omega)]
theorem StC.bf {M M1 : Mem} {x : Int → Int} {n a : Int} {t : Int} {k : Nat} (f : BFr M M1) (h0 : 0 ≤ t) (h1 : t < 8) (h : StC x n a M (plA t) k) : StC x n a M1 (plA t) k := by
  have p := fun k => f.pl h0 h1 0 (by omega) k
  simp only [Nat.add_zero] at p
  obtain ⟨s1, s2, s3, s4, s5⟩ := h
  refine ⟨by rw [p]; exact s1, by rw [p]; exact s2, by rw [p]; exact s3, by rw [p]; exact s4, fun j hj => ?_⟩
  rw [f.pl h0 h1 2 (by omega), f.pl h0 h1 3 (by omega)]
  exact s5 j hj
theorem BASE.fr {M M1 : Mem} (h : BASE M) (f : BFr M M1) : BASE M1 := by
  obtain ⟨⟨a1, a2, a3, a4, a5⟩, b, c, ⟨d1, d2, d3⟩, ⟨e1, e2, e3, e4, e5, e6, e7, e8, e9, e10, e11, e12, e13⟩, g⟩ := h
  have m0 := f.m (k := 0) (by omega)
  have m9 := f.m (k := 9) (by omega)
  have m22 := f.m (k := 22) (by omega)
  have m23 := f.m (k := 23) (by omega)
  have m24 := f.m (k := 24) (by omega)
  have m25 := f.m (k := 25) (by omega)
  refine ⟨⟨by rw [m0]; exact a1, by rw [m0]; exact a2, by rw [f.a (c := 1) (by omega), m0]; exact a3, fun h p q => ?_, by rw [f.a (c := 1) (by omega), f.fir]; exact a5⟩, fun t t0 t1 => ?_, fun t t0 t1 => ?_, ⟨by rw [m9]; exact d1, by rw [m9]; exact d2, by rw [f 0 8 (by unfold baseC; omega), m9]; exact d3⟩, ?_, ?_⟩
  · rw [m0] at q
    rw [f.a (c := 2) (by omega), f.a (c := 3) (by omega), f.a (c := 4) (by omega), f.a (c := 106) (by omega), f.a (c := 107) (by omega), f.a (c := 108) (by omega)]
    exact a4 h p q
  · obtain ⟨b1, b2, b3, b4⟩ := b t t0 t1
    have p := fun k => f.pl t0 t1 0 (by omega) k
    simp only [Nat.add_zero] at p
    unfold BTxt
    rw [f.tx, f.a (c := 109) (by omega), m0]
    obtain ⟨q1, q2, q3, q4, q5, q6⟩ := b4
    refine ⟨b1, b2, ⟨by rw [p]; exact b3.1, fun j j0 j1 => by rw [f.pl t0 t1 1 (by omega)]; exact b3.2 j j0 j1⟩, by rw [p]; exact q1, by rw [p]; exact q2, by rw [p]; exact q3, by rw [p]; exact q4, by rw [p]; exact q5, q6.bf f t0 t1⟩
  · unfold BRnk
    rw [f.a (c := 111) (by omega), f.a (c := 112) (by omega), f.a (c := 7) (by omega), f.a (c := 8) (by omega), f.a (c := 9) (by omega)]
    exact c t t0 t1
  · unfold BRul
    rw [m22, m23, m24, m25, f.a (c := 6) (by omega), f.a (c := 6) (by omega), f.a (c := 6) (by omega), f.a (c := 6) (by omega), f.a (c := 6) (by omega)]
    exact ⟨e1, e2, e3, e4, e5, e6, e7, e8, e9, e10, e11, e12, e13⟩
  · rw [f.a (c := 6) (by omega), f.are]; exact g
theorem PD0.fr {P M M1 : Mem} (h : PD0 P M) (f : BFr M M1) : PD0 P M1 := by
  obtain ⟨h1, h2, h3, h4, h5, h6⟩ := h
  have m0 := f.m (k := 0) (by omega)
  refine ⟨by rw [m0]; exact h1, by rw [f.fir]; exact h2, fun h p q => ?_, by rw [f.m (by omega)]; exact h4, by rw [f.m (by omega)]; exact h5, fun t a b => ?_⟩
  · rw [m0] at q
    rw [f.a (c := 106) (by omega), f.a (c := 107) (by omega), f.a (c := 108) (by omega)]
    exact h3 h p q
  · unfold PDt
    rw [f.tx, f.a (c := 109) (by omega), m0, f.a (c := 111) (by omega)]
    exact h6 t a b
theorem CSt.bf {P M M1 : Mem} (h : CSt P M 6) (f : BFr M M1) : CSt P M1 6 := by
  obtain ⟨h1, h2, h3, h4, h5, h6, h7⟩ := h
  have g := fun k => f.a (c := 6) (by omega) k
  refine ⟨by rw [g]; exact h1, by rw [g]; exact h2, by rw [g]; exact h3, by rw [g]; exact h4, fun t a b => ?_, by rw [g]; exact h6, fun q => by rw [g, g]; exact h7 q⟩
  rw [f.a (c := 6 + 1) (by omega), f.a (c := 6 + 3) (by omega)]
  exact h5 t a b
theorem PDs.fr {P M M1 : Mem} (h : PDs P M 6) (f : BFr M M1) : PDs P M1 6 := by
  obtain ⟨h1, h2, h3, h4⟩ := h
  exact ⟨h1.fr f, h2.bf f, fun t a b c => by rw [f.are]; exact h3 t a b c, h4⟩
theorem hv_hs {P : Mem} {x : Int → Int} {n a t : Int} {k : Nat} (h : ∀ j : Nat, j < k → P 118 (20 * t + j) = skK x n a j ∧ P 119 (20 * t + j) = skA x n a j) : ∀ j : Nat, j ≤ k → hvF P t j = hsF x n a j := by
  intro j
  induction j with
  | zero => exact fun _ => rfl
  | succ j ih =>
    intro hj
    have e := h j (by omega)
    simp only [hvF, hsF]
    rw [e.1, e.2, ih (by omega)]
theorem are_t {M : Mem} {t : Int} (h0 : 0 ≤ t) (h1 : t < 8) : tb (areB M) t = true ↔ ftF (txR M t) (M 109 t) (M 104 0) = -1 ∧ tb (M 104 9) t = false := by
  unfold areB
  rw [tb8 h0 h1]
  simp
/-- such parameters may be run, and the class has them -/
theorem PDs.ok {P M : Mem} {S : Nat} (hB : BASE M) (h : PDs P M S) : PV P ∧ CPl P M ∧ CSt P M S := by
  obtain ⟨⟨h1, h2, h3, h4, h5, h6⟩, hs, ha, hb, r1, r2, r3, r4, r5, r6, hr⟩ := h
  obtain ⟨⟨a1, a2, a3, a4, a5⟩, b, c, d, ⟨e1, e2, e3, e4, e5, e6, e7, e8, e9, e10, e11, e12, e13⟩, g⟩ := hB
  have fact : ∀ t, 0 ≤ t → t < 8 → tb (P 104 27) t = true → PVt P t ∧ ftF (txR M t) (M 109 t) (M 104 0) = -1 := by
    intro t t0 t1 w
    have ft := ((are_t t0 t1).mp (ha t t0 t1 w)).1
    obtain ⟨⟨p1, p2, p3, p4, p5⟩, _⟩ := h6 t t0 t1
    obtain ⟨n0, n1, _, _⟩ := b t t0 t1
    have hd4ok : (hd4 (txR M t) (M 109 t)).1 = -1 := by
      apply Classical.byContradiction
      intro q
      unfold ftF at ft
      rw [if_pos q] at ft
      exact q ft
    have hd := hd_ok n0 hd4ok
    have hall : ∀ j : Nat, j < stN (txR M t) (M 109 t) (M 104 0) → scF (txR M t) (M 109 t) (M 104 0) (a0F (txR M t) (M 109 t)) j = -1 := fun j hj => (st_ok hj).2
    have k17 := kb_le hd.1 n1 hall
    refine ⟨⟨by omega, by omega, by omega, by omega, by omega, by omega, by omega, by omega, fun k hk => ?_⟩, ft⟩
    rw [p4] at hk
    have s := sc_ok (by omega) (hall k (by omega))
    have e := p5 k (by omega)
    have hv := hv_hs p5 k (by omega)
    rw [e.1, e.2, h1, hv]
    rcases s.2.2.2 with w | w
    · exact Or.inl ⟨w.1, w.2, s.2.2.1⟩
    · exact Or.inr ⟨w.1, s.2.1, w.2.1, w.2.2.1⟩
  refine ⟨⟨hb, by omega, by omega, r1, r2, r3, r4, by omega, by omega, r5, r6, fun t t0 t1 => ?_, fun t t0 t1 w => (fact t t0 t1 w).1⟩, ⟨by rw [h1]; exact a3, by rw [h2]; exact a5, fun h p q => ?_, fun t t0 t1 => ?_, fun t t0 t1 w => ?_⟩, hs⟩
  · obtain ⟨q1, q2, q3, q4⟩ := hr t t0 t1
    have w := nuW_B (x := txR M t) (n := M 109 t) (z := hd3 (txR M t) (M 109 t))
    have := (h6 t t0 t1).1.2.2.1
    exact ⟨q1, q2, q3, q4, by omega, by omega⟩
  · rw [h1] at q
    obtain ⟨x1, x2, x3⟩ := a4 h p q
    obtain ⟨y1, y2, y3⟩ := h3 h p q
    exact ⟨by omega, by omega, by omega⟩
  · have w := nuW_B (x := txR M t) (n := M 109 t) (z := hd3 (txR M t) (M 109 t))
    have := (b t t0 t1).2.2.2.2.2.2.2.1
    omega
  · obtain ⟨⟨p1, p2, p3, p4, p5⟩, _⟩ := h6 t t0 t1
    obtain ⟨n0, n1, _, q1, q2, q3, q4, q5, s1, s2, s3, s4, s5⟩ := b t t0 t1
    refine ⟨by rw [q3, p1], by rw [q4, p2], by rw [q5, p3], by rw [s1, p4], ?_, fun k k0 k1 => ?_⟩
    · rw [s3]
      unfold tkS tkB
      refine mkB_cg fun y y0 y1 => ?_
      unfold tksP
      rw [p4, Int.toNat_natCast]
      refine Bool.eq_iff_iff.mpr ?_
      rw [exB_iff, exB_iff]
      constructor
      · rintro ⟨k, k0, k1, e⟩
        have p := p5 k.toNat (by omega)
        rw [Int.toNat_of_nonneg k0] at p
        exact ⟨k, k0, k1, by rw [p.1, p.2]; exact e⟩
      · rintro ⟨k, k0, k1, e⟩
        have p := p5 k.toNat (by omega)
        rw [Int.toNat_of_nonneg k0] at p
        rw [p.1, p.2] at e
        exact ⟨k, k0, k1, e⟩
    · rw [p4] at k1
      have p := p5 k.toNat (by omega)
      have s := s5 k.toNat (by omega)
      rw [Int.toNat_of_nonneg k0] at p s
      rw [s.1, s.2, p.1, p.2]
      exact ⟨rfl, rfl⟩
