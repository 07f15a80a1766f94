/-! texts: what they say, as functions -/
def byt (x : Int → Int) (n a : Int) : Int := if a < n then x a else -1
def isD (b : Int) : Bool := decide (48 ≤ b ∧ b ≤ 57)
def nV (x : Int → Int) (n a : Int) : Int := if isD (byt x n a) = true then (if isD (byt x n (a + 1)) = true then (byt x n a - 48) * 10 + (byt x n (a + 1) - 48) else byt x n a - 48) else 0
def nA (x : Int → Int) (n a : Int) : Int := if isD (byt x n a) = true then (if isD (byt x n (a + 1)) = true then a + 2 else a + 1) else a
def exP (x : Int → Int) (n c : Int) (z : Int × Int) : Int × Int := if z.1 = -1 then (if byt x n z.2 = c then (-1, z.2 + 1) else (z.2, z.2)) else z
def nuP (x : Int → Int) (n lo hi : Int) (z : Int × Int) : Int × Int := if z.1 = -1 then (if nA x n z.2 = z.2 ∨ nV x n z.2 < lo ∨ hi < nV x n z.2 then (z.2, z.2) else (-1, nA x n z.2)) else z
def nuW (x : Int → Int) (n : Int) (z : Int × Int) : Int := if z.1 = -1 then nV x n z.2 else 0
def hd1 (x : Int → Int) (n : Int) : Int × Int := exP x n 112 (-1, 0)
def hd2 (x : Int → Int) (n : Int) : Int × Int := exP x n 100 (exP x n 44 (nuP x n 1 60 (hd1 x n)))
def hd3 (x : Int → Int) (n : Int) : Int × Int := exP x n 111 (exP x n 44 (nuP x n 1 99 (hd2 x n)))
def hd4 (x : Int → Int) (n : Int) : Int × Int := exP x n 58 (nuP x n 0 99 (hd3 x n))
def kdB (b : Int) : Int := if b = 119 then 0 else if b = 116 then 1 else if b = 103 then 2 else -1
def skK (x : Int → Int) (n a : Int) (j : Int) : Int := kdB (byt x n (a + 3 * j))
def skA (x : Int → Int) (n a : Int) (j : Int) : Int := byt x n (a + 3 * j + 1) - 48
def hsF (x : Int → Int) (n a : Int) : Nat → Int
  | 0 => 0
  | j + 1 => if skK x n a j = 0 then hsF x n a j else if skK x n a j = 2 then clrB (hsF x n a j) (skA x n a j) else iOr (hsF x n a j) (1 * 2 ^ (skA x n a j).toNat)
/-- where the step at a place cannot be, with what is had there; -1: it can -/
def scF (x : Int → Int) (n h a : Int) (j : Nat) : Int :=
  if skK x n a j = -1 then a + 3 * j
  else if isD (byt x n (a + 3 * j + 1)) = true ∧ (if skK x n a j = 0 then 1 ≤ skA x n a j else skA x n a j < h ∧ (tb (hsF x n a j) (skA x n a j) = true ↔ skK x n a j = 2)) then -1 else a + 3 * j + 1
def prs (x : Int → Int) (n h a : Int) : Nat → Nat → Int × Nat
  | 0, k => (0, k)
  | m + 1, k => if ¬ scF x n h a k = -1 then (scF x n h a k, k) else if a + 3 * k + 2 < n then (if byt x n (a + 3 * k + 2) = 44 then prs x n h a m (k + 1) else (a + 3 * k + 2, k + 1)) else (-1, k + 1)
def wkS (x : Int → Int) (n a : Int) (k : Nat) : Int := sumI k fun j => if skK x n a j = 0 then skA x n a j else 0
def tkS (x : Int → Int) (n a : Int) (k : Nat) : Int := mkB 6 fun h => exB k fun j => decide (skK x n a j = 1) && decide (skA x n a j = h)
def a0F (x : Int → Int) (n : Int) : Int := (hd4 x n).2
def stF' (x : Int → Int) (n h : Int) : Int × Nat := prs x n h (a0F x n) 20 0
/-- FAULT, steps -/
def ftF (x : Int → Int) (n h : Int) : Int := if ¬ (hd4 x n).1 = -1 then (hd4 x n).1 else if ¬ (stF' x n h).1 = -1 then (stF' x n h).1 else if wkS x n (a0F x n) (stF' x n h).2 = 0 then n else -1
def stN (x : Int → Int) (n h : Int) : Nat := if ftF x n h = -1 then (stF' x n h).2 else 0
theorem byt_lt {x : Int → Int} {n a : Int} (h : isD (byt x n a) = true) : a < n := by
  apply Classical.byContradiction
  intro q
  unfold byt at h
  rw [if_neg q] at h
  exact absurd h (by decide)
theorem isD_iff {b : Int} : isD b = true ↔ 48 ≤ b ∧ b ≤ 57 := by unfold isD; exact decide_eq_true_iff
theorem nA_B {x : Int → Int} {n a : Int} (h0 : 0 ≤ a) (h1 : a ≤ n) : a ≤ nA x n a ∧ nA x n a ≤ n ∧ nA x n a ≤ a + 2 := by
  unfold nA
  split
  · next e =>
    have := byt_lt e
    split
    · next e2 => have := byt_lt e2; omega
    · omega
  · omega
theorem nV_B {x : Int → Int} {n a : Int} : 0 ≤ nV x n a ∧ nV x n a ≤ 99 := by
  unfold nV
  split
  · next e =>
    have := isD_iff.mp e
    split
    · next e2 => have := isD_iff.mp e2; omega
    · omega
  · omega
def ZB (n : Int) (z : Int × Int) : Prop := -1 ≤ z.1 ∧ z.1 ≤ n ∧ 0 ≤ z.2 ∧ z.2 ≤ n
theorem exP_B {x : Int → Int} {n c : Int} {z : Int × Int} (hc : 0 ≤ c) (h : ZB n z) : ZB n (exP x n c z) := by
  obtain ⟨h1, h2, h3, h4⟩ := h
  unfold exP
  split
  · split
    · next e =>
      have : z.2 < n := by
        apply Classical.byContradiction
        intro q
        unfold byt at e
        rw [if_neg q] at e
        omega
      exact ⟨by dsimp only; omega, by dsimp only; omega, by dsimp only; omega, by dsimp only; omega⟩
    · exact ⟨by dsimp only; omega, by dsimp only; omega, by dsimp only; omega, by dsimp only; omega⟩
  · exact ⟨h1, h2, h3, h4⟩
theorem nuP_B {x : Int → Int} {n lo hi : Int} {z : Int × Int} (h : ZB n z) : ZB n (nuP x n lo hi z) := by
  obtain ⟨h1, h2, h3, h4⟩ := h
  have := nA_B (x := x) h3 h4
  unfold nuP
  split
  · split
    · exact ⟨by dsimp only; omega, by dsimp only; omega, by dsimp only; omega, by dsimp only; omega⟩
    · exact ⟨by dsimp only; omega, by dsimp only; omega, by dsimp only; omega, by dsimp only; omega⟩
  · exact ⟨h1, h2, h3, h4⟩
theorem exP_ok {x : Int → Int} {n c : Int} {z : Int × Int} (h : (exP x n c z).1 = -1) (h0 : 0 ≤ z.2) : z.1 = -1 ∧ (exP x n c z).2 = z.2 + 1 := by
  unfold exP at h ⊢
  by_cases e : z.1 = -1
  · rw [if_pos e] at h ⊢
    by_cases e2 : byt x n z.2 = c
    · rw [if_pos e2]; exact ⟨e, rfl⟩
    · rw [if_neg e2] at h; dsimp only at h; omega
  · rw [if_neg e] at h; exact absurd h e
theorem nuP_ok {x : Int → Int} {n lo hi : Int} {z : Int × Int} (h : (nuP x n lo hi z).1 = -1) (h0 : 0 ≤ z.2) (h1 : z.2 ≤ n) : z.1 = -1 ∧ z.2 + 1 ≤ (nuP x n lo hi z).2 ∧ lo ≤ nV x n z.2 ∧ nV x n z.2 ≤ hi := by
  have := nA_B (x := x) h0 h1
  unfold nuP at h ⊢
  by_cases e : z.1 = -1
  · rw [if_pos e] at h ⊢
    by_cases e2 : nA x n z.2 = z.2 ∨ nV x n z.2 < lo ∨ hi < nV x n z.2
    · rw [if_pos e2] at h; dsimp only at h; omega
    · rw [if_neg e2]; exact ⟨e, by dsimp only; omega, by omega, by omega⟩
  · rw [if_neg e] at h; exact absurd h e
theorem hd_B {x : Int → Int} {n : Int} (hn : 0 ≤ n) : ZB n (hd1 x n) ∧ ZB n (hd2 x n) ∧ ZB n (hd3 x n) ∧ ZB n (hd4 x n) := by
  have h1 : ZB n (hd1 x n) := exP_B (by omega) ⟨by dsimp only; omega, by dsimp only; omega, by dsimp only; omega, by dsimp only; omega⟩
  have h2 : ZB n (hd2 x n) := exP_B (by omega) (exP_B (by omega) (nuP_B h1))
  have h3 : ZB n (hd3 x n) := exP_B (by omega) (exP_B (by omega) (nuP_B h2))
  exact ⟨h1, h2, h3, exP_B (by omega) (nuP_B h3)⟩
/-- of a head without a fault -/
theorem hd_ok {x : Int → Int} {n : Int} (hn : 0 ≤ n) (h : (hd4 x n).1 = -1) : 9 ≤ a0F x n ∧ 1 ≤ nuW x n (hd1 x n) ∧ nuW x n (hd1 x n) ≤ 60 ∧ 1 ≤ nuW x n (hd2 x n) ∧ nuW x n (hd2 x n) ≤ 99 ∧ 0 ≤ nuW x n (hd3 x n) ∧ nuW x n (hd3 x n) ≤ 99 := by
  obtain ⟨b1, b2, b3, b4⟩ := hd_B (x := x) hn
  have c3 := nuP_B (x := x) (lo := 0) (hi := 99) b3
  have e4 := exP_ok (x := x) (n := n) (c := 58) (z := nuP x n 0 99 (hd3 x n)) h c3.2.2.1
  have e3 := nuP_ok (x := x) (n := n) (lo := 0) (hi := 99) (z := hd3 x n) e4.1 b3.2.2.1 b3.2.2.2
  have d2 := nuP_B (x := x) (lo := 1) (hi := 99) b2
  have d2' := exP_B (x := x) (c := 44) (by omega) d2
  have f3 := exP_ok (x := x) (n := n) (c := 111) (z := exP x n 44 (nuP x n 1 99 (hd2 x n))) e3.1 d2'.2.2.1
  have g3 := exP_ok (x := x) (n := n) (c := 44) (z := nuP x n 1 99 (hd2 x n)) f3.1 d2.2.2.1
  have e2 := nuP_ok (x := x) (n := n) (lo := 1) (hi := 99) (z := hd2 x n) g3.1 b2.2.2.1 b2.2.2.2
  have d1 := nuP_B (x := x) (lo := 1) (hi := 60) b1
  have d1' := exP_B (x := x) (c := 44) (by omega) d1
  have f2 := exP_ok (x := x) (n := n) (c := 100) (z := exP x n 44 (nuP x n 1 60 (hd1 x n))) e2.1 d1'.2.2.1
  have g2 := exP_ok (x := x) (n := n) (c := 44) (z := nuP x n 1 60 (hd1 x n)) f2.1 d1.2.2.1
  have e1 := nuP_ok (x := x) (n := n) (lo := 1) (hi := 60) (z := hd1 x n) g2.1 b1.2.2.1 b1.2.2.2
  have f1 := exP_ok (x := x) (n := n) (c := 112) (z := (-1, 0)) e1.1 (by dsimp only; omega)
  have w1 : nuW x n (hd1 x n) = nV x n (hd1 x n).2 := by unfold nuW; rw [if_pos e1.1]
  have w2 : nuW x n (hd2 x n) = nV x n (hd2 x n).2 := by unfold nuW; rw [if_pos e2.1]
  have w3 : nuW x n (hd3 x n) = nV x n (hd3 x n).2 := by unfold nuW; rw [if_pos e3.1]
  rw [w1, w2, w3]
  have p1 : (hd1 x n).2 = 1 := f1.2
  have p2 : (hd2 x n).2 = (exP x n 44 (nuP x n 1 60 (hd1 x n))).2 + 1 := f2.2
  have p3 : (hd3 x n).2 = (exP x n 44 (nuP x n 1 99 (hd2 x n))).2 + 1 := f3.2
  have p4 : a0F x n = (nuP x n 0 99 (hd3 x n)).2 + 1 := e4.2
  have q2 := g2.2
  have q3 := g3.2
  have r1 := e1.2.1
  have r2 := e2.2.1
  have r3 := e3.2.1
  refine ⟨by omega, e1.2.2.1, e1.2.2.2, e2.2.2.1, e2.2.2.2, e3.2.2.1, e3.2.2.2⟩
theorem nuW_B {x : Int → Int} {n : Int} {z : Int × Int} : 0 ≤ nuW x n z ∧ nuW x n z ≤ 99 := by
  unfold nuW
  split
  · exact nV_B
  · omega
theorem sc_ok {x : Int → Int} {n h a : Int} {j : Nat} (ha : 0 ≤ a) (hs : scF x n h a j = -1) : a + 3 * j + 1 < n ∧ 0 ≤ skA x n a j ∧ skA x n a j ≤ 9 ∧ ((skK x n a j = 0 ∧ 1 ≤ skA x n a j) ∨ ((skK x n a j = 1 ∨ skK x n a j = 2) ∧ skA x n a j < h ∧ (skK x n a j = 1 → tb (hsF x n a j) (skA x n a j) = false) ∧ (skK x n a j = 2 → tb (hsF x n a j) (skA x n a j) = true))) := by
  unfold scF at hs
  by_cases e : skK x n a j = -1
  · rw [if_pos e] at hs; omega
  · rw [if_neg e] at hs
    by_cases g : isD (byt x n (a + 3 * j + 1)) = true ∧ (if skK x n a j = 0 then 1 ≤ skA x n a j else skA x n a j < h ∧ (tb (hsF x n a j) (skA x n a j) = true ↔ skK x n a j = 2))
    · have d := isD_iff.mp g.1
      have lt := byt_lt g.1
      have kk : skK x n a j = 0 ∨ skK x n a j = 1 ∨ skK x n a j = 2 := by
        unfold skK kdB at e ⊢
        split at e
        · next q => rw [if_pos q]; exact Or.inl rfl
        · next q =>
          rw [if_neg q]
          split at e
          · next q2 => rw [if_pos q2]; exact Or.inr (Or.inl rfl)
          · next q2 =>
            rw [if_neg q2]
            split at e
            · next q3 => rw [if_pos q3]; exact Or.inr (Or.inr rfl)
            · exact absurd rfl e
      have ar : skA x n a j = byt x n (a + 3 * j + 1) - 48 := rfl
      refine ⟨lt, by omega, by omega, ?_⟩
      have g2 := g.2
      by_cases q : skK x n a j = 0
      · rw [if_pos q] at g2; exact Or.inl ⟨q, g2⟩
      · rw [if_neg q] at g2
        refine Or.inr ⟨by omega, g2.1, fun w => ?_, fun w => g2.2.mpr w⟩
        cases c : tb (hsF x n a j) (skA x n a j)
        · rfl
        · have := g2.2.mp c; omega
    · rw [if_neg g] at hs; omega
theorem hs_B {x : Int → Int} {n h a : Int} (ha : 0 ≤ a) (hh : h ≤ 6) : ∀ k : Nat, (∀ j : Nat, j < k → scF x n h a j = -1) → inB (hsF x n a k) := by
  intro k
  induction k with
  | zero => exact fun _ => ⟨by simp [hsF], by simp [hsF]⟩
  | succ k ih =>
    intro hk
    have b := ih fun j hj => hk j (by omega)
    have s := sc_ok ha (hk k (by omega))
    simp only [hsF]
    split
    · exact b
    · split
      · exact andn_B b (pow_B (by omega))
      · exact or_B b (pow_B (by omega))
theorem prs_ok {x : Int → Int} {n h a : Int} : ∀ (m k : Nat), (∀ j : Nat, j < k → scF x n h a j = -1) → ∀ j : Nat, j < (prs x n h a m k).2 → scF x n h a j = -1 := by
  intro m
  induction m with
  | zero => intro k hk j hj; exact hk j hj
  | succ m ih =>
    intro k hk j hj
    simp only [prs] at hj
    split at hj
    · exact hk j hj
    · next e =>
      have e' : scF x n h a k = -1 := Decidable.not_not.mp e
      have hk1 : ∀ j : Nat, j < k + 1 → scF x n h a j = -1 := fun j hj => by
        by_cases q : j = k
        · rw [q]; exact e'
        · exact hk j (by omega)
      split at hj
      · split at hj
        · exact ih (k + 1) hk1 j hj
        · exact hk1 j hj
      · exact hk1 j hj
/-- of steps without a fault -/
theorem st_ok {x : Int → Int} {n h : Int} {j : Nat} (hj : j < stN x n h) : (hd4 x n).1 = -1 ∧ scF x n h (a0F x n) j = -1 := by
  unfold stN at hj
  split at hj
  · next e =>
    refine ⟨?_, prs_ok 20 0 (fun j hj => by omega) j hj⟩
    apply Classical.byContradiction
    intro q
    unfold ftF at e
    rw [if_pos q] at e
    exact q e
  · omega
theorem kb_le {x : Int → Int} {n h a : Int} (h9 : 9 ≤ a) (hn : n ≤ 60) {k : Nat} (hk : ∀ j : Nat, j < k → scF x n h a j = -1) : k ≤ 17 := by
  apply Classical.byContradiction
  intro q
  have := (sc_ok (j := 17) (by omega) (hk 17 (by omega))).1
  omega
