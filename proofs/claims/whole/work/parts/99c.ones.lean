/-! how many bits; what a setting says -/
section
variable {sx : Int → Int} {L : Nat} {M : Mem} {Q : Option AV → Mem → Prop}
def onF (b : Int) : Int := sumI 8 fun t => if tb b t = true then 1 else 0
theorem onF_B {b : Int} : 0 ≤ onF b ∧ onF b ≤ 8 := sumI_0 (n := 8) (b := 1) fun _ _ _ => r01
def bc1 (x : Int) : Int := x - (iAnd (x / 2 ^ ((1 : Int)).toNat) 1431655765)
def bc2 (y : Int) : Int := (iAnd y 858993459) + (iAnd (y / 2 ^ ((2 : Int)).toNat) 858993459)
def bc3 (y : Int) : Int := y + y / 2 ^ ((4 : Int)).toNat
def bc4 (y : Int) : Int := iAnd y 252645135
def bc5 (y : Int) : Int := y + y / 2 ^ ((8 : Int)).toNat
def bc6 (y : Int) : Int := y + y / 2 ^ ((16 : Int)).toNat
def bcB (x : Int) : Bool := decide (inR (bc1 x) ∧ 0 ≤ bc1 x ∧ inR (bc2 (bc1 x)) ∧ 0 ≤ bc2 (bc1 x) ∧ inR (bc3 (bc2 (bc1 x))) ∧ 0 ≤ bc4 (bc3 (bc2 (bc1 x))) ∧ inR (bc5 (bc4 (bc3 (bc2 (bc1 x))))) ∧ 0 ≤ bc5 (bc4 (bc3 (bc2 (bc1 x)))) ∧ inR (bc6 (bc5 (bc4 (bc3 (bc2 (bc1 x)))))) ∧ iAnd (bc6 (bc5 (bc4 (bc3 (bc2 (bc1 x)))))) 63 = onF x)
theorem bcB_all : (List.range 256).all (fun n => bcB (n : Int)) = true := by decide +kernel
theorem s_226 {b : Int} (b0 : 0 ≤ b) (b1 : b < 256) (hQ : Q (some (vI (onF b))) M) : Mq sx L K0 R0 226 [vI b] M Q := by
  have h := List.all_eq_true.mp bcB_all b.toNat (List.mem_range.mpr (by omega))
  rw [Int.toNat_of_nonneg b0] at h
  obtain ⟨h1, h2, h3, h4, h5, h6, h7, h8, h9, h10⟩ := of_decide_eq_true h
  rw [← h10] at hQ
  exact m_226 (b_226_0 ⟨⟨b0, by omega, by omega⟩, h1, ⟨h2, by omega, by omega⟩, h3, ⟨h4, by omega, by omega⟩, h5, ⟨h6, by omega, by omega⟩, h7, ⟨h8, by omega, by omega⟩, h9, hQ⟩)
theorem s_138 {b : Int} (hb : inB b) (hQ : Q (some (vI (onF b))) M) : Mq sx L K0 R0 138 [vI b] M Q := by
  refine m_138 (b_138_0 (lpI (N := 8) (G := fun k => Rn sx L K0 R0 138 1 [vI b, vI (sumI k.toNat fun t => if tb b t = true then 1 else 0), vI k] [] M Q) (fun k k0 k1 ih => ?_) (b_138_1 ⟨fun _ => b_138_2 hQ, fun q => absurd (by omega) q⟩) 0 (by omega) (by omega)))
  rw [sumI_s k0] at ih
  have hs := sumI_0 (n := k.toNat) (f := fun t => if tb b t = true then 1 else 0) (b := 1) (fun t _ _ => r01)
  generalize (sumI k.toNat fun t => if tb b t = true then 1 else 0) = sm at hs ih ⊢
  have e := bt_eq (i := k) hb
  have r := r01 (p := tb b k)
  refine b_138_1 ⟨fun q => absurd q (by omega), fun _ => ⟨⟨hb.1, k0, by omega⟩, ?_⟩⟩
  rw [e]
  exact ⟨⟨by omega, by omega⟩, ⟨by omega, by omega⟩, ih⟩
theorem s_78G {S : Nat} {t : Int} (hS : isSt S) (hB : inB (M S 0)) (t0 : 0 ≤ t) (t1 : t < 8) (hQ : ∀ r, (tb (M S 0) t = true ∧ r = 1 ∨ tb (M S 0) t = false ∧ r = 0) → Q (some (vI r)) M) : Mq sx L K0 R0 78 [vR (S + 2), vI t] M Q := by
  refine m_78 (b_78_0 hS ⟨⟨hB.1, t0, by omega⟩, fun w => b_78_1 hS (b_78_2 hS ⟨Or.inl rfl, hQ _ (Or.inr ⟨?_, rfl⟩)⟩), fun w => b_78_2 hS ⟨Or.inr rfl, hQ _ (Or.inl ⟨?_, rfl⟩)⟩⟩)
  · rw [bt_ne hB] at w; exact w
  · rw [bt_ne hB] at w; simpa using w
theorem s_79 {S : Nat} (hS : isSt S) (hQ : ∀ r, ((M S 4 = 0 ∨ M S 5 = 2) ∧ r = 1 ∨ ¬ (M S 4 = 0 ∨ M S 5 = 2) ∧ r = 0) → Q (some (vI r)) M) : Mq sx L K0 R0 79 [vR (S + 2)] M Q :=
  m_79 (b_79_0 hS ⟨fun q => b_79_1 hS (b_79_3 hS ⟨Or.inr rfl, hQ 1 (Or.inl ⟨Or.inl q, rfl⟩)⟩), fun q => ⟨fun q2 => b_79_2 hS (b_79_3 hS ⟨Or.inl rfl, hQ 0 (Or.inr ⟨fun w => w.elim q q2, rfl⟩)⟩), fun q2 => b_79_1 hS (b_79_3 hS ⟨Or.inr rfl, hQ 1 (Or.inl ⟨Or.inr (Decidable.not_not.mp q2), rfl⟩)⟩)⟩⟩)
/-- a number that says whether something holds -/
noncomputable def l01 (p : Prop) : Int := @ite Int p (Classical.propDecidable p) 1 0
theorem l01_t {p : Prop} (h : p) : l01 p = 1 := by unfold l01; rw [if_pos h]
theorem l01_f {p : Prop} (h : ¬ p) : l01 p = 0 := by unfold l01; rw [if_neg h]
theorem l01_c {p q : Prop} (h : p ↔ q) : l01 p = l01 q := by rw [propext h]
theorem l01_B {p : Prop} : 0 ≤ l01 p ∧ l01 p ≤ 1 := by
  rcases Classical.em p with h | h
  · rw [l01_t h]; omega
  · rw [l01_f h]; omega
theorem are_lt : ∀ {M : Mem}, 0 ≤ areB M ∧ areB M < 256 := fun {M} => ⟨areB_B.1, mkB_lt (n := 8) (by omega)⟩
end
