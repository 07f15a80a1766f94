/-! what to drop: sets -/
section
variable {sx : Int → Int} {L : Nat} {M M1 N : Mem} {A : Int} {Q : Option AV → Mem → Prop} {SR : (Mem → Prop) × (Mem → Prop)}
def subI (x A : Int) : Prop := ∀ i : Int, 0 ≤ i → tb x i = true → tb A i = true
abbrev sdF (A b : Int) : Int := iAnd A (iXor b (-1))
theorem sub_andn {x : Int} (hx : inB x) (hA : inB A) : iAnd x (iXor A (-1)) = 0 ↔ subI x A := by
  rw [tb_eq0 (andn_B hx hA).1]
  constructor
  · intro h i i0 w
    have e := h i i0
    rw [tb_andn hx hA, w] at e
    simpa using e
  · intro h i i0
    rw [tb_andn hx hA]
    cases hw : tb x i
    · rfl
    · rw [h i i0 hw]; rfl
theorem sub_nat {m n : Nat} (hm : m < 2147483648) (hn : n < 2147483648) : m &&& n = m ↔ subI (m : Int) (n : Int) := by
  have hx : inB (m : Int) := ⟨by omega, by omega⟩
  have hA : inB (n : Int) := ⟨by omega, by omega⟩
  have e : (iAnd (m : Int) (n : Int) = (m : Int)) ↔ m &&& n = m := by rw [bv_and m n hm hn]; omega
  rw [← e]
  constructor
  · intro h i i0 w
    have := tb_and hx hA i
    rw [h, w] at this
    simpa using this
  · intro h
    refine tb_ext (and_B hx hA).1 hx.1 fun i i0 => ?_
    rw [tb_and hx hA]
    cases hw : tb (m : Int) i
    · rfl
    · rw [h i i0 hw]; rfl
/-- the next set among -/
def nxB (a s : Nat) : Bool :=
  if s &&& a == s then
    decide (0 ≤ iAnd ((s : Int) - (a : Int)) (a : Int)) && (((iAnd ((s : Int) - (a : Int)) (a : Int)).toNat &&& a) == (iAnd ((s : Int) - (a : Int)) (a : Int)).toNat) && (if (iAnd ((s : Int) - (a : Int)) (a : Int)).toNat == 0 then true else decide (s < (iAnd ((s : Int) - (a : Int)) (a : Int)).toNat ∧ (iAnd ((s : Int) - (a : Int)) (a : Int)).toNat < 256)) && (List.range ((if (iAnd ((s : Int) - (a : Int)) (a : Int)).toNat == 0 then 256 else (iAnd ((s : Int) - (a : Int)) (a : Int)).toNat) - (s + 1))).all fun d => !(((s + 1 + d) &&& a) == s + 1 + d)
  else true
theorem nxB_all : (List.range 256).all (fun a => (List.range 256).all fun s => nxB a s) = true := by decide +kernel
theorem nx_set {s : Int} (a0 : 0 ≤ A) (a1 : A < 256) (s0 : 0 ≤ s) (s1 : s < 256) (hs : subI s A) : 0 ≤ iAnd (s - A) A ∧ subI (iAnd (s - A) A) A ∧ (¬ iAnd (s - A) A = 0 → s < iAnd (s - A) A ∧ iAnd (s - A) A < 256) ∧ ∀ m, s < m → m < (if iAnd (s - A) A = 0 then 256 else iAnd (s - A) A) → ¬ subI m A := by
  obtain ⟨a, rfl⟩ : ∃ a : Nat, A = a := ⟨A.toNat, by omega⟩
  obtain ⟨t, rfl⟩ : ∃ t : Nat, s = t := ⟨s.toNat, by omega⟩
  have h := List.all_eq_true.mp (List.all_eq_true.mp nxB_all a (List.mem_range.mpr (by omega))) t (List.mem_range.mpr (by omega))
  unfold nxB at h
  rw [if_pos (by rw [(sub_nat (by omega) (by omega)).mpr hs]; exact beq_self_eq_true t)] at h
  simp only [Bool.and_eq_true, decide_eq_true_eq, beq_iff_eq] at h
  obtain ⟨⟨⟨h1, h2⟩, h3⟩, h4⟩ := h
  generalize hn : iAnd ((t : Int) - (a : Int)) (a : Int) = n at h1 h2 h3 h4 ⊢
  obtain ⟨k, rfl⟩ : ∃ k : Nat, n = k := ⟨n.toNat, by omega⟩
  rw [Int.toNat_natCast] at h2 h3 h4
  have k256 : ¬ (k : Int) = 0 → t < k ∧ k < 256 := fun q => by
    rw [if_neg (by simpa using (by omega : ¬ k = 0))] at h3
    simpa using h3
  have kl : k < 2147483648 := by
    by_cases e : (k : Int) = 0
    · omega
    · have := k256 e; omega
  refine ⟨h1, (sub_nat kl (by omega)).mp h2, fun q => ⟨by have := k256 q; omega, by have := k256 q; omega⟩, fun m m0 m1 w => ?_⟩
  have hm : m < 256 := by
    by_cases e : (k : Int) = 0
    · rw [if_pos e] at m1; exact m1
    · rw [if_neg e] at m1; have := k256 e; omega
  obtain ⟨j, rfl⟩ : ∃ j : Nat, m = j := ⟨m.toNat, by omega⟩
  have hj := (sub_nat (m := j) (n := a) (by omega) (by omega)).mpr w
  have := List.all_eq_true.mp h4 (j - (t + 1)) (List.mem_range.mpr (by
    by_cases e : k = 0
    · rw [if_pos (by simpa using e)]
      omega
    · rw [if_neg (by simpa using e)]
      rw [if_neg (by omega)] at m1
      omega))
  rw [show t + 1 + (j - (t + 1)) = j by omega, hj] at this
  simp at this
theorem sumI_le2 {n : Nat} {f g : Int → Int} (h : ∀ k : Int, 0 ≤ k → k < n → f k ≤ g k) : sumI n f ≤ sumI n g ∧ (sumI n f = sumI n g → ∀ k : Int, 0 ≤ k → k < n → f k = g k) := by
  induction n with
  | zero => exact ⟨Int.le_refl _, fun _ k a b => by omega⟩
  | succ n ih =>
    obtain ⟨i1, i2⟩ := ih fun k a b => h k a (by omega)
    have hn := h n (by omega) (by omega)
    simp only [sumI]
    refine ⟨by omega, fun e k a b => ?_⟩
    by_cases q : k = n
    · rw [q]; omega
    · exact i2 (by omega) k a (by omega)
theorem on_eq {s : Int} (a0 : 0 ≤ A) (a1 : A < 256) (s0 : 0 ≤ s) (s1 : s < 256) (hs : subI s A) (e : onF s = onF A) : s = A := by
  have hp := (sumI_le2 (n := 8) (f := fun t => if tb s t = true then 1 else 0) (g := fun t => if tb A t = true then 1 else 0) fun k k0 k1 => by
    show (if tb s k = true then (1 : Int) else 0) ≤ if tb A k = true then 1 else 0
    cases hw : tb s k
    · rw [if_neg (by decide)]; exact r01.1
    · rw [hs k k0 hw]; exact Int.le_refl _).2 e
  refine tb_ext s0 a0 fun i i0 => ?_
  by_cases q : i < 8
  · have : (if tb s i = true then (1 : Int) else 0) = if tb A i = true then 1 else 0 := hp i i0 q
    cases h1 : tb s i <;> cases h2 : tb A i
    · rfl
    · rw [h1, h2] at this; simp at this
    · rw [h1, h2] at this; simp at this
    · rfl
  · rw [tb_lt (n := 8) s0 s1 (by omega), tb_lt (n := 8) a0 a1 (by omega)]
/-- worth of a set -/
def wsF (M : Mem) (b : Int) : Int := sumI 8 fun t => if tb b t = true then M 112 t else 0
theorem wsF_B {b : Int} (hb : BASE M) : 0 ≤ wsF M b ∧ wsF M b ≤ 800 := by
  have := sumI_0 (n := 8) (f := fun t => if tb b t = true then M 112 t else 0) (b := 100) fun k k0 k1 => by
    have r := hb.2.2.1 k k0 (by omega)
    obtain ⟨r1, r2, r3, r4, r5, r6, r7⟩ := r
    show 0 ≤ (if tb b k = true then M 112 k else 0) ∧ (if tb b k = true then M 112 k else 0) ≤ 100
    split <;> omega
  unfold wsF
  omega
theorem sd_self (hA : inB A) : ∀ i, tb (sdF A A) i = false := fun i => by
  rw [tb_andn hA hA]
  cases tb A i <;> rfl
theorem ws_0 {b : Int} (h : ∀ i, tb b i = false) : wsF M b = 0 := by
  have : wsF M b = sumI 8 fun _ => 0 := sumI_congr fun k _ _ => by rw [h k, if_neg (by decide)]
  rw [this]; rfl
/-- a set is better to drop than another one, and serves -/
def ltS (M : Mem) (x : Int) : Prop := ltG M (sdF (areB M) x) (M 104 22) (M 104 23) (fun t => M 111 t) (fun _ => 0) (M 104 25)
def btr (M : Mem) (x b : Int) : Prop := wsF M (sdF (areB M) b) < wsF M (sdF (areB M) x) ∨ (wsF M (sdF (areB M) x) = wsF M (sdF (areB M) b) ∧ onF x < onF b)
def shP (M : Mem) (x b : Int) : Prop := subI x (areB M) ∧ btr M x b ∧ ¬ ltS M x
noncomputable def shF (M : Mem) : Nat → Int
  | 0 => areB M
  | n + 1 => @ite Int (shP M n (shF M n)) (Classical.propDecidable _) n (shF M n)
theorem shF_y {n : Nat} (h : shP M n (shF M n)) : shF M (n + 1) = n := by simp only [shF]; rw [if_pos h]
theorem shF_n {n : Nat} (h : ¬ shP M n (shF M n)) : shF M (n + 1) = shF M n := by simp only [shF]; rw [if_neg h]
theorem shF_B : ∀ n : Nat, n ≤ 256 → 0 ≤ shF M n ∧ shF M n < 256 ∧ (shF M n = areB M ∨ shF M n < n) ∧ subI (shF M n) (areB M) := by
  intro n
  induction n with
  | zero =>
    intro _
    have := are_lt (M := M)
    exact ⟨this.1, this.2, Or.inl rfl, fun _ _ w => w⟩
  | succ n ih =>
    intro hn
    obtain ⟨h1, h2, h3, h4⟩ := ih (by omega)
    rcases Classical.em (shP M n (shF M n)) with w | w
    · rw [shF_y w]
      exact ⟨by omega, by omega, Or.inr (by omega), w.1⟩
    · rw [shF_n w]
      exact ⟨h1, h2, h3.imp id fun q => by omega, h4⟩
theorem shF_skip {n : Nat} : ∀ d : Nat, (∀ m : Int, n ≤ m → m < (n + d : Nat) → ¬ subI m (areB M)) → shF M (n + d) = shF M n := by
  intro d
  induction d with
  | zero => exact fun _ => rfl
  | succ d ih =>
    intro h
    rw [show n + (d + 1) = (n + d) + 1 by omega, shF_n fun w => h ((n + d : Nat) : Int) (by omega) (by omega) w.1]
    exact ih fun m a b => h m a (by omega)
theorem OKS {x : Int} (hb : BASE M) (hx : inB x) : OKG M (sdF (areB M) x) (M 104 22) (M 104 23) (fun t => M 111 t) (fun _ => 0) := by
  obtain ⟨h1, h2, h3, h4, h5, h6, h7⟩ := OKG0 hb
  refine ⟨fun t t0 t1 w => ?_, andn_B areB_B hx, h3, h4, h5, h6, h7⟩
  rw [tb_andn areB_B hx] at w
  simp only [Bool.and_eq_true] at w
  exact w.1
theorem shF_bm (hb : BASE M) (b : BFr M N) : (∀ x, wsF N x = wsF M x) ∧ ∀ n : Nat, n ≤ 256 → shF N n = shF M n := by
  obtain ⟨g1, g2, g3, g4, g5, g6, g7, g8, g9, g10, g11, g12, g13⟩ := hb.2.2.2.2.1
  have e111 : (fun t => N 111 t) = fun t => M 111 t := funext fun t => b.a (c := 111) (by omega) t
  have ew : ∀ x, wsF N x = wsF M x := fun x => by
    unfold wsF
    exact sumI_congr fun k _ _ => by rw [b.a (c := 112) (by omega)]
  refine ⟨ew, fun n => ?_⟩
  induction n with
  | zero => exact fun _ => by simp only [shF]; exact b.are
  | succ n ih =>
    intro hn
    have e := ih (by omega)
    have iff : shP N n (shF N n) ↔ shP M n (shF M n) := by
      unfold shP btr ltS
      rw [e, b.are, b.m (k := 22) (by omega), b.m (k := 23) (by omega), b.m (k := 25) (by omega), e111, ew, ew]
      rw [ltG.bm hb (OKS hb ⟨by omega, by omega⟩) b.sy (by omega) g11]
    rcases Classical.em (shP M n (shF M n)) with w | w
    · rw [shF_y w, shF_y (iff.mpr w)]
    · rw [shF_n w, shF_n fun q => w (iff.mp q), e]
/-- what is kept of it -/
def KS (M : Mem) : Prop := M 74 6 = 0 ∨ (M 74 7 = shF M 256 ∧ M 74 8 = wsF M (sdF (areB M) (shF M 256)))
theorem KS.fr (hb : BASE M) (h : KS M) (b : BFr M N) (f : ∀ k, 6 ≤ k → k ≤ 9 → N 74 k = M 74 k) : KS N := by
  obtain ⟨e1, e2⟩ := shF_bm hb b
  unfold KS
  rw [f 6 (by omega) (by omega), f 7 (by omega) (by omega), f 8 (by omega) (by omega), e2 256 (by omega), b.are, e1]
  exact h
end
