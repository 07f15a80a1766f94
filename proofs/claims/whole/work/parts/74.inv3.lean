def SHT (M : Mem) : Prop := ∀ s, 0 ≤ s → s < 4 → (M (shA s) 0 = 0 ∨ M (shA s) 0 = 1) ∧ M 139 s = 1 - M (shA s) 0 ∧ (M (shA s) 0 = 0 → 0 ≤ M 140 s ∧ M 140 s ≤ 2 ∧ M (shA s) 1 = M 140 s ∧ 0 ≤ M 141 s ∧ M 141 s ≤ 60 ∧ M (shA s) 2 = M 141 s ∧ ∀ i, 0 ≤ i → i < 60 → M 142 (60 * s + i) = M (shA s + 1) i)
def FND (M : Mem) : Prop := 0 ≤ M 104 64 ∧ M 104 64 ≤ 5 ∧ M 0 9 = M 104 64
def RUNC (M : Mem) : Prop := M 0 7 = 0 ∨ (M 0 7 = 1 ∧ ∀ P s0, PDs P M 6 → IniS s0 → RFn P (rnF P s0 (M 104 25).toNat) M 52 (M 104 25))
def RUNR (M : Mem) : Prop := M 104 26 = 0 ∨ (M 104 26 = 1 ∧ M 104 10 = 1 ∧ ∃ P s0, PDs P M 6 ∧ IniS s0 ∧ TM P (rnF P s0 (M 104 25).toNat) M)
def RDI (M : Mem) : Prop := M 104 10 = 0 ∨ (M 104 10 = 1 ∧ RDok M)
def INV0 (SR : (Mem → Prop) × (Mem → Prop)) (M : Mem) : Prop := BASE M ∧ RDI M ∧ (0 ≤ M 104 32 ∧ M 104 32 ≤ 21) ∧ RUNC M ∧ SR.1 M ∧ SR.2 M ∧ FND M
def INVM (SR : (Mem → Prop) × (Mem → Prop)) (M : Mem) : Prop := INV0 SR M ∧ RUNR M
/-- what the searches keep hangs on no more than what is told, and their own cells -/
def SROK (SR : (Mem → Prop) × (Mem → Prop)) : Prop := (∀ M M', SR.1 M → BFr M M' → (∀ c k, c = 74 ∨ (101 ≤ c ∧ c ≤ 103) → M' c k = M c k) → SR.1 M') ∧ (∀ M, M 74 3 = 0 → M 74 6 = 0 → M 74 10 = 0 → M 74 13 = 0 → SR.1 M) ∧ ∀ M M', SR.2 M → (∀ c k, (43 ≤ c ∧ c ≤ 50 ∨ 139 ≤ c ∧ c ≤ 142) → M' c k = M c k) → SR.2 M'
theorem CPl.eq {P M M' : Mem} (h : CPl P M) (f : ∀ c k, (1 ≤ c ∧ c ≤ 4 ∨ 11 ≤ c ∧ c ≤ 42) → M' c k = M c k) : CPl P M' := by
  obtain ⟨h1, h2, h3, h4, h5⟩ := h
  refine ⟨by rw [f 1 0 (by omega)]; exact h1, by rw [f 1 1 (by omega)]; exact h2, fun h a b => ?_, fun t a b => ?_, fun t a b c => ?_⟩
  · rw [f 2 h (by omega), f 3 h (by omega), f 4 h (by omega)]
    exact h3 h a b
  · rw [f (plA t) 6 (by have := pl_rg a b; omega)]
    exact h4 t a b
  · have r := pl_rg a b
    have z := fun k => f (plA t) k (by omega)
    rw [z, z, z, z, z]
    obtain ⟨g1, g2, g3, g4, g5, g6⟩ := h5 t a b c
    refine ⟨g1, g2, g3, g4, g5, fun k k0 k1 => ?_⟩
    rw [f (plA t + 2) k (by omega), f (plA t + 3) k (by omega)]
    exact g6 k k0 k1
theorem RFn.eq {P s M M' : Mem} {B : Nat} {T : Int} (hB : isRb B) (h : RFn P s M B T) (f : ∀ c k, (1 ≤ c ∧ c ≤ 4 ∨ 11 ≤ c ∧ c ≤ 42 ∨ B ≤ c ∧ c < B + 22) → M' c k = M c k) : RFn P s M' B T := by
  obtain ⟨h1, ⟨p1, p2, p3, p4, p5, p6⟩, h3, h4, h5, h6⟩ := h
  have fB : ∀ k, M' B k = M B k := fun k => f B k (by omega)
  have fC : ∀ t k, 0 ≤ t → t < 8 → M' (ckA B t) k = M (ckA B t) k := fun t k a b => f _ _ (by have := ck_in (B := B) a b; omega)
  have fD : ∀ t k, 0 ≤ t → t < 8 → M' (ckA B t + 1) k = M (ckA B t + 1) k := fun t k a b => f _ _ (by have := ck_in1 (B := B) a b; omega)
  refine ⟨h1.eq fun c k q => f c k (by omega), ⟨by rw [fB]; exact p1, by rw [fB]; exact p2, by rw [fB]; exact p3, by rw [fB]; exact p4, by rw [fB]; exact p5, fun t a b => ?_⟩, fun t a b => ⟨(h3 t a b).1.eq (fun _ _ _ => rfl) (fun k _ => fC t k a b) (fun k => fD t k a b), by rw [fC t 16 a b]; exact (h3 t a b).2⟩, fun t' a b => ?_, ?_, fun t' h a b c d => ?_⟩
  · rw [fC t 2 a b, fC t 3 a b, fC t 4 a b, fC t 5 a b, fC t 17 a b]
    exact p6 t a b
  · rw [f (B + 2) t' (by omega), f (B + 3) t' (by omega), f (B + 4) t' (by omega)]
    exact h4 t' a b
  · unfold RGr
    rw [fB, fB]; exact h5
  · rw [f (B + 5) _ (by omega)]; exact h6 t' h a b c d
/-- parameters out of what is told -/
def PTm (M : Mem) : Mem := fun c k =>
  if c = 104 then (if k = 27 then M 6 0 else if k = 30 then -1 else if k = 31 then 0 else if k = 32 then 0 else if k = 33 then M 104 22 else if k = 34 then M 104 23 else M 104 k)
  else if c = 114 then M (plA k) 4 else if c = 115 then M (plA k) 5 else if c = 116 then M (plA k) 6 else if c = 117 then M (plA k) 9
  else if c = 118 then M (plA (k / 20) + 2) (k % 20) - 1 else if c = 119 then M (plA (k / 20) + 3) (k % 20) else if c = 121 then M 111 k else if c = 122 then 0 else M c k
theorem stN_le {M : Mem} {t : Int} (hb : BTxt M t) : stN (txR M t) (M 109 t) (M 104 0) ≤ 17 := by
  by_cases e : ftF (txR M t) (M 109 t) (M 104 0) = -1
  · have hd4ok : (hd4 (txR M t) (M 109 t)).1 = -1 := by
      apply Classical.byContradiction
      intro q
      unfold ftF at e
      rw [if_pos q] at e
      exact q e
    have hd := hd_ok hb.1 hd4ok
    exact kb_le hd.1 hb.2.1 fun j hj => (st_ok hj).2
  · unfold stN
    rw [if_neg e]
    omega
theorem areB_B {M : Mem} : inB (areB M) := mkB_B 8 _ (by omega)
theorem PTm_ok {M : Mem} (hB : BASE M) : PDs (PTm M) M 6 := by
  obtain ⟨⟨a1, a2, a3, a4, a5⟩, b, c, d, ⟨e1, e2, e3, e4, e5, e6, e7, e8, e9, e10, e11, e12, e13⟩, g⟩ := id hB
  have p27 : PTm M 104 27 = M 6 0 := rfl
  have p30 : PTm M 104 30 = -1 := rfl
  have p32 : PTm M 104 32 = 0 := rfl
  have p33 : PTm M 104 33 = M 104 22 := rfl
  have p34 : PTm M 104 34 = M 104 23 := rfl
  have p0 : PTm M 104 0 = M 104 0 := rfl
  have p121 : ∀ t, PTm M 121 t = M 111 t := fun _ => rfl
  have p122 : ∀ t, PTm M 122 t = 0 := fun _ => rfl
  have p117 : ∀ t, PTm M 117 t = M (plA t) 9 := fun _ => rfl
  refine ⟨⟨p0, fir_cg p0 fun h _ _ => rfl, fun h _ _ => ⟨rfl, rfl, rfl⟩, rfl, rfl, fun t t0 t1 => ⟨?_, rfl⟩⟩, ⟨p27.symm, by rw [p33]; exact e3, by rw [p34]; exact e6, e9, fun t t0 t1 => ?_, by rw [p30]; exact e13, fun q => by rw [p30] at q; omega⟩, fun t t0 t1 w => by rw [p27, g] at w; exact w, by rw [p27, g]; exact areB_B, by rw [p33]; exact e1, by rw [p33]; exact e2, by rw [p34]; exact e4, by rw [p34]; exact e5, by rw [p32]; omega, by rw [p32]; omega, fun t t0 t1 => ?_⟩
  · obtain ⟨n0, n1, _, q1, q2, q3, q4, q5, s1, s2, s3, s4, s5⟩ := b t t0 t1
    have k17 := stN_le (b t t0 t1)
    refine ⟨q3, q4, q5, s1, fun j hj => ?_⟩
    have s := s5 j hj
    have x1 : (20 * t + (j : Int)) / 20 = t := by omega
    have x2 : (20 * t + (j : Int)) % 20 = j := by omega
    have y1 : PTm M 118 (20 * t + j) = M (plA ((20 * t + (j : Int)) / 20) + 2) ((20 * t + (j : Int)) % 20) - 1 := rfl
    have y2 : PTm M 119 (20 * t + j) = M (plA ((20 * t + (j : Int)) / 20) + 3) ((20 * t + (j : Int)) % 20) := rfl
    rw [y1, y2, x1, x2, s.1, s.2]
    exact ⟨by omega, rfl⟩
  · obtain ⟨r1, r2, r3, r4, r5, r6, r7⟩ := c t t0 t1
    rw [p121, p122]
    exact ⟨r3, r7⟩
  · obtain ⟨r1, r2, r3, r4, r5, r6, r7⟩ := c t t0 t1
    rw [p121, p122]
    exact ⟨r1, r2, by omega, by omega⟩
def s00 : Mem := fun c k => if c = 131 then -1 else if c = 104 ∧ k = 49 then -1 else 0
theorem s00_ok : IniS s00 := ⟨fun _ _ _ => ⟨rfl, rfl, rfl, rfl, rfl⟩, rfl, rfl⟩
section
variable {sx : Int → Int} {L : Nat} {M : Mem} {Q : Option AV → Mem → Prop} {SR : (Mem → Prop) × (Mem → Prop)}
/-- a run of the class, for all that describe it -/
theorem s_36all {B S : Nat} {len u : Int} (hB : isRb B) (hS : isSt S) (hb : BASE M) {P0 : Mem} (h0 : PDs P0 M S) (hlen : 0 ≤ len) (hlen2 : len ≤ 120) (hQ : ∀ M', (∀ P s0, PDs P M S → IniS s0 → GoR P s0 M' B len u) → FrB B M M' → Q none M') : Mq sx L K0 R0 36 [vR (B + 2), vR (S + 2), vI len, vI u] M Q := by
  have := Mq_all (sx := sx) (L := L) (M := M) (mi := 36) (av := [vR (B + 2), vR (S + 2), vI len, vI u]) (ι := {q : Mem × Mem // PDs q.1 M S ∧ IniS q.2}) (Qi := fun q rv M' => rv = none ∧ GoR q.1.1 q.1.2 M' B len u ∧ FrB B M M') ⟨(P0, s00), h0, s00_ok⟩ (fun q => by
    obtain ⟨hp, hC, hs⟩ := q.2.1.ok hb
    exact s_36 hB hS hp hC hs q.2.2 hlen hlen2 fun M' g f => ⟨rfl, g, f⟩)
  refine Mq.mono this fun rv M' h => ?_
  have h1 := h ⟨(P0, s00), h0, s00_ok⟩
  rw [h1.1]
  exact hQ M' (fun P s0 hp hi => (h ⟨(P, s0), hp, hi⟩).2.1) h1.2.2
/-- the class's own run and nothing else -/
def GFr (M M' : Mem) : Prop := ∀ c k, ¬ (52 ≤ c ∧ c < 74) → ¬ (c = 0 ∧ k = 7) → M' c k = M c k
theorem GFr.bf {M M' : Mem} (f : GFr M M') : BFr M M' := fun c k q => f c k (by unfold baseC at q; omega) (by unfold baseC at q; omega)
theorem sh_rg {s : Int} (h0 : 0 ≤ s) (h1 : s < 4) : 43 ≤ shA s ∧ shA s + 1 ≤ 50 := by unfold shA; omega
theorem SHT.fr {M' : Mem} (h : SHT M) (f : ∀ c k, (43 ≤ c ∧ c ≤ 50 ∨ 139 ≤ c ∧ c ≤ 142) → M' c k = M c k) : SHT M' := by
  intro s s0 s1
  have r := sh_rg s0 s1
  have e := fun k => f (shA s) k (by omega)
  rw [e, e, e, f 139 s (by omega), f 140 s (by omega), f 141 s (by omega)]
  obtain ⟨h1, h2, h3⟩ := h s s0 s1
  refine ⟨h1, h2, fun q => ?_⟩
  obtain ⟨g1, g2, g3, g4, g5, g6, g7⟩ := h3 q
  refine ⟨g1, g2, g3, g4, g5, g6, fun i i0 i1 => ?_⟩
  rw [f 142 _ (by omega), f (shA s + 1) i (by omega)]
  exact g7 i i0 i1
theorem RDok.fr {M' : Mem} (h : RDok M) (b : BFr M M') (f : ∀ c k, 113 ≤ c ∧ c ≤ 120 → M' c k = M c k) : RDok M' := by
  intro t t0 t1
  unfold RdT
  rw [b.tx, b.a (c := 109) (by omega), b.m (k := 0) (by omega), f 113 t (by omega), f 114 t (by omega), f 115 t (by omega), f 116 t (by omega), f 117 t (by omega), f 120 t (by omega)]
  obtain ⟨h1, h2, h3, h4, h5, h6, h7⟩ := h t t0 t1
  refine ⟨h1, h2, h3, h4, h5, h6, fun j hj => ?_⟩
  rw [f 118 _ (by omega), f 119 _ (by omega)]
  exact h7 j hj
theorem TM.fr {P s M' : Mem} (h : TM P s M) (f : ∀ c k, (isS c k ∨ c = 125 ∨ c = 115 ∨ c = 111 ∨ (c = 104 ∧ k = 25)) → M' c k = M c k) : TM P s M' := by
  obtain ⟨h1, h2, h3, h4⟩ := h
  refine ⟨fun c k q => by rw [f c k (Or.inl q)]; exact h1 c k q, fun t j a b c d => by rw [f 125 _ (by simp)]; exact h2 t j a b c d, fun t a b => ?_, by rw [f 104 25 (by simp)]; exact h4⟩
  rw [f 115 t (by simp), f 111 t (by simp)]
  exact h3 t a b
theorem RUNR.fr {M' : Mem} (h : RUNR M) (b : BFr M M') (f : ∀ c k, (isS c k ∨ c = 125 ∨ c = 115 ∨ c = 111 ∨ (c = 104 ∧ (k = 25 ∨ k = 26 ∨ k = 10))) → M' c k = M c k) : RUNR M' := by
  rcases h with h | ⟨h1, h2, P, s0, h3, h4, h5⟩
  · exact Or.inl (by rw [f 104 26 (by simp)]; exact h)
  · refine Or.inr ⟨by rw [f 104 26 (by simp)]; exact h1, by rw [f 104 10 (by simp)]; exact h2, P, s0, h3.fr b, h4, ?_⟩
    rw [f 104 25 (by simp)]
    exact h5.fr fun c k q => f c k (by rcases q with q | q | q | q | q; exact Or.inl q; exact Or.inr (Or.inl q); exact Or.inr (Or.inr (Or.inl q)); exact Or.inr (Or.inr (Or.inr (Or.inl q))); exact Or.inr (Or.inr (Or.inr (Or.inr ⟨q.1, Or.inl q.2⟩))))
theorem RUNC.fr {M' : Mem} (h : RUNC M) (b : BFr M M') (f : ∀ c k, (52 ≤ c ∧ c < 74 ∨ (c = 0 ∧ k = 7)) → M' c k = M c k) : RUNC M' := by
  rcases h with h | ⟨h1, h2⟩
  · exact Or.inl (by rw [f 0 7 (by simp)]; exact h)
  · refine Or.inr ⟨by rw [f 0 7 (by simp)]; exact h1, fun P s0 hp hi => ?_⟩
    rw [b.m (k := 25) (by omega)]
    refine (h2 P s0 (hp.fr b.sy) hi).eq (Or.inl rfl) fun c k q => ?_
    by_cases e : 52 ≤ c ∧ c < 74
    · exact f c k (Or.inl e)
    · exact b c k (by unfold baseC; omega)
theorem INVM.gfr {M' : Mem} (hs : SROK SR) (h : INVM SR M) (f : GFr M M') (hr : RUNC M') : INVM SR M' := by
  obtain ⟨⟨h1, h2, h3, h4, h5, h6, h7⟩, h8⟩ := h
  have b := f.bf
  refine ⟨⟨h1.fr b, ?_, by rw [f 104 32 (by omega) (by omega)]; exact h3, hr, hs.1 M M' h5 b fun c k q => f c k (by omega) (by omega), hs.2.2 M M' h6 fun c k q => f c k (by omega) (by omega), ?_⟩, h8.fr b fun c k q => f c k (by unfold isS at q; omega) (by unfold isS at q; omega)⟩
  · unfold RDI
    rw [f 104 10 (by omega) (by omega)]
    exact h2.imp id fun w => ⟨w.1, w.2.fr b fun c k q => f c k (by omega) (by omega)⟩
  · unfold FND
    rw [f 104 64 (by omega) (by omega), f 0 9 (by omega) (by omega)]
    exact h7
theorem s_135 (hs : SROK SR) (h : INVM SR M) (hQ : ∀ M', INVM SR M' → M' 0 7 = 1 → GFr M M' → Q none M') : Mq sx L K0 R0 135 [vR 2] M Q := by
  have hb := h.1.1
  obtain ⟨e1, e2, e3, e4, e5, e6, e7, e8, e9, e10, e11, e12, e13⟩ := hb.2.2.2.2.1
  refine m_135 (b_135_0 ⟨fun q => b_135_1 ?_, fun q => ?_⟩)
  · have h7 : M 0 7 = 1 := by
      rcases h.1.2.2.2.1 with w | w
      · exact absurd w q
      · exact w.1
    exact hQ M h h7 fun _ _ _ _ => rfl
  · rw [e12]
    refine s_36all (B := 52) (S := 6) (Or.inl rfl) (Or.inl rfl) hb (PTm_ok hb) (by omega) e11 fun M1 g f => ⟨rfl, b_135_1 ?_⟩
    have G : GFr M (mset M1 0 7 1) := fun c k a b => by
      rw [ms_ne b]
      exact f c k (by unfold outB; omega)
    refine hQ _ (INVM.gfr hs h G (Or.inr ⟨ms_eq, fun P s0 hp hi => ?_⟩)) ms_eq G
    have m25 : mset M1 0 7 1 104 25 = M 104 25 := G.bf.m (by omega)
    rw [m25]
    exact ((g P s0 (hp.fr G.bf.sy) hi).2.2 (Or.inl rfl)).eq (Or.inl rfl) fun c k q => ms_c (by omega)
end
