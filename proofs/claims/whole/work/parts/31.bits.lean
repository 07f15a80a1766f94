/-! bits of whole numbers -/
def tb (b i : Int) : Bool := b.toNat.testBit i.toNat
abbrev inB (b : Int) : Prop := 0 ≤ b ∧ b ≤ 2147483647
theorem ii32 {x : Int} (h0 : 0 ≤ x) (h1 : x ≤ 2147483647) : (Int32.ofInt x).toInt = x := Int32.toInt_ofInt_of_le (by omega) (by omega)
theorem bv_and (m n : Nat) (hm : m < 2147483648) (hn : n < 2147483648) : iAnd (m : Int) (n : Int) = ((m &&& n : Nat) : Int) := by
  unfold iAnd
  have h1 : (m &&& n) < 2147483648 := Nat.lt_of_le_of_lt Nat.and_le_left hm
  have e : (Int32.ofInt (m : Int) &&& Int32.ofInt (n : Int)) = Int32.ofInt ((m &&& n : Nat) : Int) := by
    apply Int32.toBitVec_inj.mp
    simp only [Int32.toBitVec_and, Int32.toBitVec_ofInt, BitVec.ofInt_natCast]
    apply BitVec.eq_of_toNat_eq
    simp only [BitVec.toNat_and, BitVec.toNat_ofNat]
    rw [Nat.mod_eq_of_lt (by omega : m < 2 ^ 32), Nat.mod_eq_of_lt (by omega : n < 2 ^ 32), Nat.mod_eq_of_lt (by omega : (m &&& n) < 2 ^ 32)]
  rw [e]
  exact ii32 (by omega) (by omega)
theorem bv_or (m n : Nat) (hm : m < 2147483648) (hn : n < 2147483648) : iOr (m : Int) (n : Int) = ((m ||| n : Nat) : Int) := by
  unfold iOr
  have h1 : (m ||| n) < 2 ^ 31 := Nat.or_lt_two_pow (n := 31) (by omega) (by omega)
  have e : (Int32.ofInt (m : Int) ||| Int32.ofInt (n : Int)) = Int32.ofInt ((m ||| n : Nat) : Int) := by
    apply Int32.toBitVec_inj.mp
    simp only [Int32.toBitVec_or, Int32.toBitVec_ofInt, BitVec.ofInt_natCast]
    apply BitVec.eq_of_toNat_eq
    simp only [BitVec.toNat_or, BitVec.toNat_ofNat]
    rw [Nat.mod_eq_of_lt (by omega : m < 2 ^ 32), Nat.mod_eq_of_lt (by omega : n < 2 ^ 32), Nat.mod_eq_of_lt (by omega : (m ||| n) < 2 ^ 32)]
  rw [e]
  exact ii32 (by omega) (by omega)
theorem bv_xor (m n : Nat) (hm : m < 2147483648) (hn : n < 2147483648) : iXor (m : Int) (n : Int) = ((m ^^^ n : Nat) : Int) := by
  unfold iXor
  have h1 : (m ^^^ n) < 2 ^ 31 := Nat.xor_lt_two_pow (n := 31) (by omega) (by omega)
  have e : (Int32.ofInt (m : Int) ^^^ Int32.ofInt (n : Int)) = Int32.ofInt ((m ^^^ n : Nat) : Int) := by
    apply Int32.toBitVec_inj.mp
    simp only [Int32.toBitVec_xor, Int32.toBitVec_ofInt, BitVec.ofInt_natCast]
    apply BitVec.eq_of_toNat_eq
    simp only [BitVec.toNat_xor, BitVec.toNat_ofNat]
    rw [Nat.mod_eq_of_lt (by omega : m < 2 ^ 32), Nat.mod_eq_of_lt (by omega : n < 2 ^ 32), Nat.mod_eq_of_lt (by omega : (m ^^^ n) < 2 ^ 32)]
  rw [e]
  exact ii32 (by omega) (by omega)
/-- a number and another one's opposite bits -/
theorem bv_andn (m n : Nat) (hm : m < 2147483648) (hn : n < 2147483648) : iAnd (m : Int) (iXor (n : Int) (-1)) = ((m &&& (4294967295 ^^^ n) : Nat) : Int) := by
  unfold iAnd iXor
  have h1 : (m &&& (4294967295 ^^^ n)) < 2147483648 := Nat.lt_of_le_of_lt Nat.and_le_left hm
  have e : (Int32.ofInt (m : Int) &&& Int32.ofInt ((Int32.ofInt (n : Int) ^^^ Int32.ofInt (-1)).toInt)) = Int32.ofInt ((m &&& (4294967295 ^^^ n) : Nat) : Int) := by
    rw [Int32.ofInt_toInt]
    apply Int32.toBitVec_inj.mp
    simp only [Int32.toBitVec_and, Int32.toBitVec_xor, Int32.toBitVec_ofInt, BitVec.ofInt_natCast]
    apply BitVec.eq_of_toNat_eq
    have e2 : (BitVec.ofInt 32 (-1)).toNat = 4294967295 := by decide
    simp only [BitVec.toNat_and, BitVec.toNat_xor, BitVec.toNat_ofNat, e2]
    rw [Nat.mod_eq_of_lt (by omega : m < 2 ^ 32), Nat.mod_eq_of_lt (by omega : n < 2 ^ 32), Nat.mod_eq_of_lt (by omega : (m &&& (4294967295 ^^^ n)) < 2 ^ 32), Nat.xor_comm]
  rw [e]
  exact ii32 (by omega) (by omega)
theorem toNB {a : Int} (h : inB a) : ∃ m : Nat, a = (m : Int) ∧ m < 2147483648 := ⟨a.toNat, by omega, by omega⟩
theorem and_B {a b : Int} (ha : inB a) (hb : inB b) : inB (iAnd a b) := by
  obtain ⟨m, rfl, hm⟩ := toNB ha
  obtain ⟨n, rfl, hn⟩ := toNB hb
  rw [bv_and m n hm hn]
  have := Nat.and_le_left (n := m) (m := n)
  exact ⟨by omega, by omega⟩
theorem or_B {a b : Int} (ha : inB a) (hb : inB b) : inB (iOr a b) := by
  obtain ⟨m, rfl, hm⟩ := toNB ha
  obtain ⟨n, rfl, hn⟩ := toNB hb
  rw [bv_or m n hm hn]
  have h1 : (m ||| n) < 2 ^ 31 := Nat.or_lt_two_pow (n := 31) (by omega) (by omega)
  exact ⟨by omega, by omega⟩
theorem xor_B {a b : Int} (ha : inB a) (hb : inB b) : inB (iXor a b) := by
  obtain ⟨m, rfl, hm⟩ := toNB ha
  obtain ⟨n, rfl, hn⟩ := toNB hb
  rw [bv_xor m n hm hn]
  have h1 : (m ^^^ n) < 2 ^ 31 := Nat.xor_lt_two_pow (n := 31) (by omega) (by omega)
  exact ⟨by omega, by omega⟩
theorem andn_B {a b : Int} (ha : inB a) (hb : inB b) : inB (iAnd a (iXor b (-1))) := by
  obtain ⟨m, rfl, hm⟩ := toNB ha
  obtain ⟨n, rfl, hn⟩ := toNB hb
  rw [bv_andn m n hm hn]
  have := Nat.and_le_left (n := m) (m := (4294967295 ^^^ n))
  exact ⟨by omega, by omega⟩
theorem tb_and {a b : Int} (ha : inB a) (hb : inB b) (i : Int) : tb (iAnd a b) i = (tb a i && tb b i) := by
  obtain ⟨m, rfl, hm⟩ := toNB ha
  obtain ⟨n, rfl, hn⟩ := toNB hb
  rw [bv_and m n hm hn]
  simp [tb]
theorem tb_or {a b : Int} (ha : inB a) (hb : inB b) (i : Int) : tb (iOr a b) i = (tb a i || tb b i) := by
  obtain ⟨m, rfl, hm⟩ := toNB ha
  obtain ⟨n, rfl, hn⟩ := toNB hb
  rw [bv_or m n hm hn]
  simp [tb]
theorem tb_xor {a b : Int} (ha : inB a) (hb : inB b) (i : Int) : tb (iXor a b) i = (tb a i ^^ tb b i) := by
  obtain ⟨m, rfl, hm⟩ := toNB ha
  obtain ⟨n, rfl, hn⟩ := toNB hb
  rw [bv_xor m n hm hn]
  simp [tb]
theorem tb_hi {a : Int} (ha : inB a) {i : Int} (h : 31 ≤ i) : tb a i = false := by
  obtain ⟨m, rfl, hm⟩ := toNB ha
  unfold tb
  apply Nat.testBit_lt_two_pow
  have : 2 ^ 31 ≤ 2 ^ i.toNat := Nat.pow_le_pow_right (by omega) (by omega)
  have h2 : (2 : Nat) ^ 31 = 2147483648 := by decide
  simp only [Int.toNat_natCast]
  omega
theorem tb_andn {a b : Int} (ha : inB a) (hb : inB b) (i : Int) : tb (iAnd a (iXor b (-1))) i = (tb a i && !tb b i) := by
  by_cases hi : 31 ≤ i
  · rw [tb_hi (andn_B ha hb) hi, tb_hi ha hi]; rfl
  obtain ⟨m, rfl, hm⟩ := toNB ha
  obtain ⟨n, rfl, hn⟩ := toNB hb
  rw [bv_andn m n hm hn]
  have e : (4294967295 : Nat).testBit i.toNat = true := by
    rw [show (4294967295 : Nat) = 2 ^ 32 - 1 by decide, Nat.testBit_two_pow_sub_one]
    simp only [decide_eq_true_eq]
    omega
  simp [tb, e]
theorem tb_ext {a b : Int} (ha : 0 ≤ a) (hb : 0 ≤ b) (h : ∀ i : Int, 0 ≤ i → tb a i = tb b i) : a = b := by
  have : a.toNat = b.toNat := by
    apply Nat.eq_of_testBit_eq
    intro i
    exact h i (by omega)
  omega
theorem tb_pow {i j : Int} (hi : 0 ≤ i) (hj : 0 ≤ j) : tb (1 * 2 ^ i.toNat) j = decide (i = j) := by
  have e : (1 * 2 ^ i.toNat : Int).toNat = 2 ^ i.toNat := by
    rw [Int.one_mul]
    exact Int.toNat_pow_of_nonneg (by omega) _
  unfold tb
  rw [e, Nat.testBit_two_pow]
  congr 1
  exact propext ⟨fun h => by omega, fun h => by rw [h]⟩
theorem pow_B {i : Int} (h : i ≤ 30) : inB (1 * 2 ^ i.toNat) := by
  have h1 : (2 : Nat) ^ i.toNat ≤ 2 ^ 30 := Nat.pow_le_pow_right (by omega) (by omega)
  have h2 : ((2 ^ i.toNat : Nat) : Int) = (2 : Int) ^ i.toNat := by simp
  have h3 : (2 : Nat) ^ 30 = 1073741824 := by decide
  rw [Int.one_mul, ← h2]
  generalize (2 : Nat) ^ i.toNat = x at h1 ⊢
  exact ⟨by omega, by omega⟩
theorem tb_zero (i : Int) : tb 0 i = false := by simp [tb]
theorem bt_eq {b i : Int} (hb : inB b) : iAnd (b / 2 ^ i.toNat) 1 = if tb b i = true then 1 else 0 := by
  obtain ⟨m, rfl, hm⟩ := toNB hb
  have e : ((m : Int) / 2 ^ i.toNat) = ((m / 2 ^ i.toNat : Nat) : Int) := by simp
  rw [e]
  have h1 : m / 2 ^ i.toNat ≤ m := Nat.div_le_self _ _
  rw [show (1 : Int) = ((1 : Nat) : Int) by rfl, bv_and _ 1 (by omega) (by omega), Nat.and_one_is_mod]
  simp only [tb, Int.toNat_natCast, Nat.testBit_eq_decide_div_mod_eq]
  by_cases h : m / 2 ^ i.toNat % 2 = 1
  · simp [h]
  · have : m / 2 ^ i.toNat % 2 = 0 := by omega
    simp [this]
theorem bt_shr {b i : Int} (hb : inB b) : inB (b / 2 ^ i.toNat) := by
  obtain ⟨m, rfl, hm⟩ := toNB hb
  have e : ((m : Int) / 2 ^ i.toNat) = ((m / 2 ^ i.toNat : Nat) : Int) := by simp
  rw [e]
  have h1 : m / 2 ^ i.toNat ≤ m := Nat.div_le_self _ _
  generalize m / 2 ^ i.toNat = x at h1 ⊢
  exact ⟨by omega, by omega⟩
theorem bt_ne {b i : Int} (hb : inB b) : (iAnd (b / 2 ^ i.toNat) 1 = 0) = (tb b i = false) := by
  rw [bt_eq hb]
  cases tb b i <;> simp
theorem tb_lt {b : Int} {n : Nat} (h0 : 0 ≤ b) (h : b < 2 ^ n) {i : Int} (hi : (n : Int) ≤ i) : tb b i = false := by
  unfold tb
  apply Nat.testBit_lt_two_pow
  have h1 : (2 : Nat) ^ n ≤ 2 ^ i.toNat := Nat.pow_le_pow_right (by omega) (by omega)
  have h2 : ((2 ^ n : Nat) : Int) = (2 : Int) ^ n := by simp
  omega
theorem lt_tb {b : Int} {n : Nat} (h : ∀ i : Int, (n : Int) ≤ i → tb b i = false) : b < 2 ^ n := by
  have h1 : b.toNat < 2 ^ n := by
    apply Nat.lt_pow_two_of_testBit
    intro i hi
    exact h i (by omega)
  have h2 : ((2 ^ n : Nat) : Int) = (2 : Int) ^ n := by simp
  omega
theorem tb_eq0 {b : Int} (hb : 0 ≤ b) : b = 0 ↔ ∀ i : Int, 0 ≤ i → tb b i = false := by
  constructor
  · rintro rfl i _; exact tb_zero i
  · intro h
    exact tb_ext hb (by omega) fun i hi => by rw [h i hi, tb_zero]
theorem tb_ne0 {b : Int} (hb : 0 ≤ b) : ¬ b = 0 ↔ ∃ i : Int, 0 ≤ i ∧ tb b i = true := by
  rw [tb_eq0 hb]
  constructor
  · intro h
    apply Classical.byContradiction
    intro h2
    exact h fun i hi => by
      cases e : tb b i
      · rfl
      · exact absurd ⟨i, hi, e⟩ h2
  · rintro ⟨i, hi, e⟩ h
    rw [h i hi] at e
    cases e
