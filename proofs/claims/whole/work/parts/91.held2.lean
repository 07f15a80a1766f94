/-! what is held against a task: the reference -/
section
variable {sx : Int → Int} {L : Nat} {M M1 P : Mem} {Q : Option AV → Mem → Prop}
theorem rsT {t : Int} (hb : BASE M) (bf : BFr M M1) (rd : RDok M1) (t0 : 0 ≤ t) (t1 : t < 8) : RS (PTm M) M1 t := by
  obtain ⟨r1, r2, r3, r4, r5, r6, r7⟩ := rd t t0 t1
  rw [bf.tx, bf.a (c := 109) (by omega), bf.m (k := 0) (by omega)] at r5 r7
  have bt := hb.2.1 t t0 t1
  have k17 := stN_le bt
  obtain ⟨n0, n1, tc, p1, p2, p3, p4, p5, s1, s2, s3, s4, s5⟩ := bt
  have e117 : PTm M 117 t = M (plA t) 9 := rfl
  refine ⟨by rw [e117, s1, r5], fun k k0 k1 => ?_⟩
  rw [e117, s1] at k1
  have e := r7 k.toNat (by omega)
  have s := s5 k.toNat (by omega)
  rw [Int.toNat_of_nonneg k0] at e s
  have x1 : (20 * t + k) / 20 = t := by omega
  have x2 : (20 * t + k) % 20 = k := by omega
  have y1 : PTm M 118 (20 * t + k) = M (plA ((20 * t + k) / 20) + 2) ((20 * t + k) % 20) - 1 := rfl
  have y2 : PTm M 119 (20 * t + k) = M (plA ((20 * t + k) / 20) + 3) ((20 * t + k) % 20) := rfl
  rw [y1, y2, x1, x2, s.1, s.2, e.1, e.2]
  exact ⟨by omega, rfl⟩
theorem s_194 {o h : Int} (hV : PVt P o) (hR : RS P M o) (o0 : 0 ≤ o) (o1 : o < 8) (hQ : ∀ r, (tksP P o h = true ∧ r = 1 ∨ tksP P o h = false ∧ r = 0) → Q (some (vI r)) M) : Mq sx L K0 R0 194 [vR 106, vI o, vI h] M Q := by
  have n0 := hV.2.2.2.2.2.2.1
  have n20 := hV.2.2.2.2.2.2.2.1
  have e9 := hR.1
  have lp : ∀ k : Int, 0 ≤ k → k ≤ P 117 o → (exB k.toNat (fun k => decide (P 118 (20 * o + k) = 1) && decide (P 119 (20 * o + k) = h)) = false) → Rn sx L K0 R0 194 1 [vR 106, vI o, vI h, vI k] [] M Q := by
    refine lpI (N := P 117 o) (G := fun k => (exB k.toNat (fun k => decide (P 118 (20 * o + k) = 1) && decide (P 119 (20 * o + k) = h)) = false) → Rn sx L K0 R0 194 1 [vR 106, vI o, vI h, vI k] [] M Q) (fun k k0 k1 ih hf => ?_) (fun hf => b_194_1 ⟨⟨o0, o1⟩, fun _ => b_194_3 (hQ 0 (Or.inr ⟨hf, rfl⟩)), fun q => absurd (by omega) q⟩)
    rw [exB_s k0, hf, Bool.false_or] at ih
    have r := hR.2 k k0 k1
    have no : ¬ (P 118 (20 * o + k) = 1 ∧ P 119 (20 * o + k) = h) → Rn sx L K0 R0 194 2 [vR 106, vI o, vI h, vI k] [] M Q := fun w => b_194_2 ⟨⟨by omega, by omega⟩, ih (by simpa using fun x y => w ⟨x, y⟩)⟩
    refine b_194_1 ⟨⟨o0, o1⟩, fun q => absurd q (by omega), fun _ => ⟨⟨by omega, by omega⟩, ⟨by omega, by omega⟩, ⟨by omega, by omega⟩, fun q => no (by omega), fun q => ⟨⟨by omega, by omega⟩, ⟨by omega, by omega⟩, ⟨by omega, by omega⟩, fun q2 => no (by omega), fun q2 => hQ 1 (Or.inl ⟨?_, rfl⟩)⟩⟩⟩
    unfold tksP
    rw [exB_iff]
    exact ⟨k, k0, by omega, by rw [decide_eq_true (show P 118 (20 * o + k) = 1 by omega), decide_eq_true (show P 119 (20 * o + k) = h by omega)]; rfl⟩
  exact m_194 (b_194_0 (lp 0 (by omega) n0 rfl))
/-- the things held, thing by thing -/
def rpF (M : Mem) (t h : Int) (k : Nat) : Bool := decide (M 105 h = 2) || exB k fun o => decide (tb (areB M) o = true ∧ (o = t ∨ gaP M t o)) && tksP (PTm M) o h
def bzF (p : Bool) : Int := if p = true then 1 else 0
theorem am_V {o : Int} (hb : BASE M) (o0 : 0 ≤ o) (o1 : o < 8) (ao : tb (areB M) o = true) : PVt (PTm M) o := by
  obtain ⟨pv, _, _⟩ := (PTm_ok hb).ok hb
  have e27 : PTm M 104 27 = areB M := by rw [← hb.2.2.2.2.2]; rfl
  exact pv.2.2.2.2.2.2.2.2.2.2.2.2 o o0 o1 (by rw [e27]; exact ao)
/-- the two masks are one -/
theorem mask_eq {t : Int} (hb : BASE M) (t0 : 0 ≤ t) (t1 : t < 8) (at' : tb (areB M) t = true) : mkB (M 104 0).toNat (fun h => rpF M t h 8) = hkF M t 8 := by
  obtain ⟨a1, a2, a3, a4, a5⟩ := hb.1
  have tk : ∀ o i, 0 ≤ o → o < 8 → tb (areB M) o = true → 0 ≤ i → tb (tkB (PTm M) o) i = tksP (PTm M) o i ∧ (tksP (PTm M) o i = true → i < M 104 0) := by
    intro o i o0 o1 ao i0
    have hV := am_V hb o0 o1 ao
    have lt : tksP (PTm M) o i = true → i < M 104 0 := by
      intro w
      unfold tksP at w
      rw [exB_iff] at w
      obtain ⟨k, k0, k1, k2⟩ := w
      simp only [Bool.and_eq_true, decide_eq_true_eq] at k2
      have n0 := hV.2.2.2.2.2.2.1
      have v := hV.2.2.2.2.2.2.2.2 k.toNat (by omega)
      rw [Int.toNat_of_nonneg k0] at v
      have e0 : PTm M 104 0 = M 104 0 := rfl
      omega
    refine ⟨?_, lt⟩
    unfold tkB
    rw [tb_mkB 6 _ (by omega) i0]
    by_cases w : tksP (PTm M) o i = true
    · rw [w, decide_eq_true (show i < ((6 : Nat) : Int) by have := lt w; omega)]; rfl
    · rw [Bool.eq_false_iff.mpr w]; simp
  have hk : ∀ k : Nat, k ≤ 8 → ∀ i, 0 ≤ i → tb (hkF M t k) i = ((decide (i < M 104 0) && decide (M 105 i = 2)) || tksP (PTm M) t i || exB k fun o => decide (gaP M t o) && tksP (PTm M) o i) := by
    intro k
    induction k with
    | zero =>
      intro _ i i0
      simp only [hkF, exB]
      rw [tk_am hb t0 t1 at', a5, tb_or (show inB (firB M) from mkB_B 6 _ (by omega)) tkB_B, (tk t i t0 t1 at' i0).1, Bool.or_false]
      congr 1
      unfold firB
      rw [tb_mkB 6 _ (by omega) i0]
      by_cases w : i < M 104 0
      · rw [decide_eq_true (show i < ((6 : Nat) : Int) by omega), decide_eq_true w, Bool.true_and, Bool.true_and]
        have : (i < M 104 0 ∧ M 105 i = 2) ↔ M 105 i = 2 := ⟨fun q => q.2, fun q => ⟨w, q⟩⟩
        simp only [this]
      · rw [decide_eq_false w, decide_eq_false (show ¬ (i < M 104 0 ∧ M 105 i = 2) from fun q => w q.1)]; simp
    | succ k ih =>
      intro hk i i0
      have h1 := ih (by omega) i i0
      simp only [hkF, exB]
      by_cases g : gaP M t k
      · rw [if_pos g, tk_am hb (by omega) (by omega) g.2.1, tb_or (hk_B hb t0 t1 at' k (by omega)) tkB_B, (tk k i (by omega) (by omega) g.2.1 i0).1, h1, decide_eq_true g, Bool.true_and, Bool.or_assoc]
      · rw [if_neg g, h1, decide_eq_false g, Bool.false_and, Bool.or_false]
  refine tb_ext (mkB_B _ _ (by omega)).1 (hk_B hb t0 t1 at' 8 (by omega)).1 fun i i0 => ?_
  rw [hk 8 (by omega) i i0, tb_mkB _ _ (by omega) i0, Int.toNat_of_nonneg a1]
  rw [Bool.eq_iff_iff]
  unfold rpF
  simp only [Bool.and_eq_true, Bool.or_eq_true, decide_eq_true_eq, exB_iff]
  constructor
  · rintro ⟨h1, h2 | ⟨o, o0, o1, ⟨o2, o3⟩, o4⟩⟩
    · exact Or.inl (Or.inl ⟨h1, h2⟩)
    · rcases o3 with o3 | o3
      · exact Or.inl (Or.inr (by rw [← o3]; exact o4))
      · exact Or.inr ⟨o, o0, o1, o3, o4⟩
  · rintro ((⟨h1, h2⟩ | h1) | ⟨o, o0, o1, o3, o4⟩)
    · exact ⟨h1, Or.inl h2⟩
    · exact ⟨(tk t i t0 t1 at' i0).2 h1, Or.inr ⟨t, t0, by omega, ⟨at', Or.inl rfl⟩, h1⟩⟩
    · exact ⟨(tk o i o0 (by omega) o3.2.1 i0).2 o4, Or.inr ⟨o, o0, o1, ⟨o3.2.1, Or.inr o3⟩, o4⟩⟩
end
