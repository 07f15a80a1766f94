/-! the best ranks: what is asked -/
section
variable {M N : Mem} {A : Int} {o o' b b' : Int → Int}
def cbF (A : Int) (i : Nat) : Int := sumI i fun t => if tb A t = true then 1 else 0
def enF (A : Int) : Nat → Int → Int
  | 0 => fun _ => 0
  | i + 1 => fun k => if tb A i = true ∧ k = cbF A i then (i : Int) else enF A i k
theorem cb_s (i : Nat) : cbF A (i + 1) = cbF A i + if tb A i = true then 1 else 0 := rfl
theorem cb_0 (i : Nat) : 0 ≤ cbF A i ∧ cbF A i ≤ i := by
  have := sumI_0 (n := i) (f := fun t => if tb A t = true then 1 else 0) (b := 1) fun _ _ _ => r01
  unfold cbF
  omega
theorem en_ok : ∀ i : Nat, (∀ k, 0 ≤ k → k < cbF A i → 0 ≤ enF A i k ∧ enF A i k < i ∧ tb A (enF A i k) = true) ∧ (∀ a b, 0 ≤ a → a < b → b < cbF A i → enF A i a < enF A i b) ∧ ∀ t : Int, 0 ≤ t → t < i → tb A t = true → cbF A t.toNat < cbF A i ∧ enF A i (cbF A t.toNat) = t := by
  intro i
  induction i with
  | zero =>
    have e : cbF A 0 = 0 := rfl
    exact ⟨fun k a c => by omega, fun a b x y z => by omega, fun t a b => by omega⟩
  | succ i ih =>
    obtain ⟨h1, h2, h3⟩ := ih
    have c0 := cb_0 (A := A) i
    rw [cb_s]
    cases hA : tb A i
    · have e : ∀ k, enF A (i + 1) k = enF A i k := fun k => by
        simp only [enF]
        rw [if_neg fun w => by rw [hA] at w; exact absurd w.1 (by decide)]
      rw [if_neg (by decide), Int.add_zero]
      refine ⟨fun k a c => ?_, fun a b x y z => ?_, fun t a c w => ?_⟩
      · rw [e]; have := h1 k a c; exact ⟨this.1, by omega, this.2.2⟩
      · rw [e, e]; exact h2 a b x y z
      · by_cases q : t = i
        · rw [q, hA] at w; exact absurd w (by decide)
        · rw [e]; exact h3 t a (by omega) w
    · have e : ∀ k, ¬ k = cbF A i → enF A (i + 1) k = enF A i k := fun k q => by
        simp only [enF]
        rw [if_neg fun w => q w.2]
      have e2 : enF A (i + 1) (cbF A i) = i := by
        show (if tb A i = true ∧ cbF A i = cbF A i then (i : Int) else enF A i (cbF A i)) = i
        rw [if_pos ⟨hA, rfl⟩]
      rw [if_pos rfl]
      refine ⟨fun k a c => ?_, fun a b x y z => ?_, fun t a c w => ?_⟩
      · by_cases q : k = cbF A i
        · rw [q, e2]; exact ⟨by omega, by omega, hA⟩
        · rw [e k q]; have := h1 k a (by omega); exact ⟨this.1, by omega, this.2.2⟩
      · rw [e a (by omega)]
        by_cases q : b = cbF A i
        · rw [q, e2]; exact (h1 a x (by omega)).2.1
        · rw [e b q]; exact h2 a b x y (by omega)
      · by_cases q : t = i
        · rw [q, Int.toNat_natCast]; exact ⟨by omega, e2⟩
        · have z := h3 t a (by omega) w
          exact ⟨by omega, by rw [e _ (by omega)]; exact z.2⟩
def rkF (o b : Int → Int) : Nat → Int → Int
  | 0 => b
  | k + 1 => fun t => if t = o k then 90 - (k : Int) else rkF o b k t
theorem rkF_c {t : Int} : ∀ n : Nat, ((∃ k : Nat, k < n ∧ o k = t) ∨ b t = b' t) → rkF o b n t = rkF o b' n t := by
  intro n
  induction n with
  | zero =>
    intro h
    rcases h with ⟨k, q, _⟩ | h
    · omega
    · exact h
  | succ n ih =>
    intro h
    simp only [rkF]
    by_cases q : t = o n
    · rw [if_pos q, if_pos q]
    · rw [if_neg q, if_neg q]
      refine ih (h.imp (fun ⟨k, x, y⟩ => ⟨k, ?_, y⟩) id)
      by_cases z : k = n
      · rw [z] at y; exact absurd y.symm q
      · omega
theorem rkF_n {t : Int} : ∀ n : Nat, (∀ k : Nat, k < n → ¬ o k = t) → rkF o b n t = b t := by
  intro n
  induction n with
  | zero => exact fun _ => rfl
  | succ n ih =>
    intro h
    simp only [rkF]
    rw [if_neg fun q => h n (by omega) q.symm]
    exact ih fun k q => h k (by omega)
theorem rkF_B {t : Int} (hb : 0 ≤ b t ∧ b t ≤ 99) : ∀ n : Nat, n ≤ 8 → 0 ≤ rkF o b n t ∧ rkF o b n t ≤ 99 := by
  intro n
  induction n with
  | zero => exact fun _ => hb
  | succ n ih =>
    intro hn
    simp only [rkF]
    split
    · omega
    · exact ih (by omega)
theorem rkF_o {t : Int} : ∀ n : Nat, (∀ k : Nat, k < n → o k = o' k) → rkF o b n t = rkF o' b n t := by
  intro n
  induction n with
  | zero => exact fun _ => rfl
  | succ n ih =>
    intro h
    simp only [rkF]
    rw [h n (by omega), ih fun k q => h k (by omega)]
def nmB (M : Mem) : Nat := (onF (areB M)).toNat
/-- the m-th order of those that are -/
def oM (M : Mem) (m : Nat) (k : Int) : Int := enF (areB M) 8 (pF (nmB M) m k)
def rkO (M : Mem) (m : Nat) : Int → Int := rkF (oM M m) (fun t => M 111 t) (nmB M)
def ltO (M : Mem) (m : Nat) : Prop := ltG M (areB M) (M 104 22) (M 104 23) (rkO M m) (fun _ => 0) (M 104 25)
theorem OKO {m : Nat} (hb : BASE M) : OKG M (areB M) (M 104 22) (M 104 23) (rkO M m) (fun _ => 0) := by
  obtain ⟨h1, h2, h3, h4, h5, h6, h7⟩ := OKG0 hb
  refine ⟨h1, h2, h3, h4, h5, h6, fun t t0 t1 => ?_⟩
  obtain ⟨x1, x2, x3, x4⟩ := h7 t t0 t1
  have on := onF_B (b := areB M)
  have := rkF_B (o := oM M m) (b := fun t => M 111 t) (t := t) ⟨x1, x2⟩ (nmB M) (by unfold nmB; omega)
  exact ⟨this.1, this.2, x3, x4⟩
theorem oM_ok {m : Nat} (n1 : 1 ≤ nmB M) (n5 : nmB M ≤ 5) (hm : m < fcN (nmB M)) : (∀ k : Int, 0 ≤ k → k < nmB M → 0 ≤ oM M m k ∧ oM M m k < 8 ∧ tb (areB M) (oM M m k) = true) ∧ (∀ t : Int, 0 ≤ t → t < 8 → tb (areB M) t = true → ∃ k : Nat, k < nmB M ∧ oM M m k = t) ∧ upw (nmB M) (enF (areB M) 8) ∧ ovr (nmB M) (enF (areB M) 8) (oM M m) (pF (nmB M) m) := by
  have on := onF_B (b := areB M)
  have en : ((nmB M : Nat) : Int) = cbF (areB M) 8 := by
    show _ = onF (areB M)
    unfold nmB; omega
  obtain ⟨p1, p2, p3, p4, p5⟩ := pm_ok n1 n5 hm
  obtain ⟨h1, h2, h3⟩ := en_ok (A := areB M) 8
  refine ⟨fun k k0 k1 => ?_, fun t t0 t1 w => ?_, fun a b a0 a1 b0 b1 => ?_, fun k k0 k1 => ?_⟩
  · obtain ⟨q0, q1⟩ := p1 k k0 k1
    have := h1 _ q0 (by omega)
    exact ⟨this.1, by have := this.2.1; unfold oM; omega, this.2.2⟩
  · obtain ⟨z1, z2⟩ := h3 t t0 (by omega) w
    have c0 := cb_0 (A := areB M) t.toNat
    obtain ⟨k, k0, k1, e⟩ := p2 (cbF (areB M) t.toNat) c0.1 (by omega)
    refine ⟨k.toNat, by omega, ?_⟩
    unfold oM
    rw [Int.toNat_of_nonneg k0, e]; exact z2
  · constructor
    · intro w
      rcases Int.lt_trichotomy a b with q | q | q
      · exact q
      · rw [q] at w; omega
      · have := h2 b a b0 q (by omega); omega
    · intro w; exact h2 a b a0 w (by omega)
  · exact ⟨rfl, p1 k k0 k1⟩
theorem bmO (hb : BASE M) (bf : BFr M N) : nmB N = nmB M ∧ (∀ m, oM N m = oM M m) ∧ ∀ m, ltO N m ↔ ltO M m := by
  obtain ⟨g1, g2, g3, g4, g5, g6, g7, g8, g9, g10, g11, g12, g13⟩ := hb.2.2.2.2.1
  have e111 : (fun t => N 111 t) = fun t => M 111 t := funext fun t => bf.a (c := 111) (by omega) t
  have en : nmB N = nmB M := by unfold nmB; rw [bf.are]
  have eo : ∀ m, oM N m = oM M m := fun m => by
    funext k
    unfold oM
    rw [bf.are, en]
  refine ⟨en, eo, fun m => ?_⟩
  have er : rkO N m = rkO M m := by unfold rkO; rw [eo, en, e111]
  unfold ltO
  rw [er, bf.are, bf.m (k := 22) (by omega), bf.m (k := 23) (by omega), bf.m (k := 25) (by omega)]
  exact ltG.bm hb (OKO hb) bf.sy (by omega) g11
/-- what is kept of it -/
def BsX (M : Mem) (is : Int) (f : Int → Int) : Prop := (is = 0 ∧ ∀ m, m < fcN (nmB M) → ltO M m) ∨ (is = 1 ∧ ∃ m, m < fcN (nmB M) ∧ ¬ ltO M m ∧ (∀ i, i < m → ltO M i) ∧ ∀ k : Int, 0 ≤ k → k < nmB M → f k = oM M m k)
theorem BsX_u {i j : Int} {f g : Int → Int} (hf : BsX M i f) (hg : BsX M j g) : i = j ∧ (i = 1 → ∀ k : Int, 0 ≤ k → k < nmB M → f k = g k) := by
  rcases hf with ⟨e, h⟩ | ⟨e, m, m1, m2, m3, m4⟩
  · rcases hg with ⟨e', h'⟩ | ⟨e', m', n1, n2, n3, n4⟩
    · exact ⟨by omega, fun q => by omega⟩
    · exact absurd (h m' n1) n2
  · rcases hg with ⟨e', h'⟩ | ⟨e', m', n1, n2, n3, n4⟩
    · exact absurd (h' m m1) m2
    · have em : m = m' := by
        rcases Nat.lt_trichotomy m m' with q | q | q
        · exact absurd (n3 m q) m2
        · exact q
        · exact absurd (m3 m' q) n2
      subst em
      exact ⟨by omega, fun _ k k0 k1 => by rw [m4 k k0 k1, n4 k k0 k1]⟩
theorem BsX_bm {i : Int} {f : Int → Int} (hb : BASE M) (bf : BFr M N) (h : BsX M i f) : BsX N i f := by
  obtain ⟨e1, e2, e3⟩ := bmO hb bf
  unfold BsX
  rw [e1]
  refine h.imp (fun w => ⟨w.1, fun m q => (e3 m).mpr (w.2 m q)⟩) fun ⟨w, m, m1, m2, m3, m4⟩ => ⟨w, m, m1, fun q => m2 ((e3 m).mp q), fun i q => (e3 i).mpr (m3 i q), fun k k0 k1 => by rw [e2]; exact m4 k k0 k1⟩
def KB (M : Mem) : Prop := M 74 3 = 0 ∨ BsX M (M 74 4) fun k => M 101 k
theorem KB.fr (hb : BASE M) (h : KB M) (bf : BFr M N) (f : ∀ k, (k = 3 ∨ k = 4) → N 74 k = M 74 k) (g : ∀ k, N 101 k = M 101 k) : KB N := by
  unfold KB
  rw [f 3 (by omega), f 4 (by omega), show (fun k => N 101 k) = fun k => M 101 k from funext g]
  exact h.imp id fun w => BsX_bm hb bf w
/-- all of them are late, where runs don't go by ranks and one is -/
theorem ltO_r {m i : Nat} (h : ¬ M 104 22 = 0) (h2 : ¬ M 104 23 = 2) : ltO M i ↔ ltO M m := ltG_r (rk := rkO M m) (rkO M i) h h2
end
