/-! the law: its loop over the script, over what each call keeps -/
def OpOk (sx : Int → Int) (L : Nat) (INV : Mem → Prop) (mc mm : Nat) (as : List AV) : Prop := ∀ M, INV M → Mq sx L K0 R0 mc (vR 2 :: as) M (fun rv M1 => ∃ r, rv = some (vI r) ∧ Mq sx L K0 R0 mm (vR 106 :: as) M1 (fun rv2 M2 => rv2 = some (vI r) ∧ INV M2))
def OpOkL (sx : Int → Int) (L : Nat) (INV : Mem → Prop) (mc mm : Nat) (as : List AV) : Prop := ∀ M, INV M → Mq sx L K0 R0 mc (vR 2 :: as) M (fun rv M1 => ∃ r, rv = some (vL r) ∧ Mq sx L K0 R0 mm (vR 106 :: as) M1 (fun rv2 M2 => rv2 = some (vL r) ∧ INV M2))
def Ops (sx : Int → Int) (L : Nat) (INV : Mem → Prop) : Prop :=
  (∀ a b, inR a → inR b → OpOk sx L INV 94 139 [vI a, vI b]) ∧
  (∀ a b c, inR a → inR b → inR c → OpOk sx L INV 95 140 [vI a, vI b, vI c]) ∧
  (∀ a b, inR a → inR b → OpOk sx L INV 96 143 [vI a, vI b]) ∧
  (∀ a, inR a → OpOk sx L INV 97 144 [vI a]) ∧
  (∀ a, inR a → OpOk sx L INV 98 153 [vI a]) ∧
  (∀ a b, inR a → inR b → OpOk sx L INV 99 155 [vI a, vI b]) ∧
  (∀ a b c, inR a → inR b → inR c → OpOk sx L INV 100 156 [vI a, vI b, vI c]) ∧
  (∀ a b, inR a → (b = 0 ∨ b = 1) → OpOk sx L INV 101 157 [vI a, vI b]) ∧
  (∀ a b, inR a → inR b → OpOk sx L INV 102 158 [vI a, vI b]) ∧
  (∀ a b, inR a → inR b → OpOk sx L INV 103 182 [vI a, vI b]) ∧
  (∀ a b, inR a → inR b → OpOk sx L INV 104 183 [vI a, vI b]) ∧
  (∀ a b, inR a → inR b → OpOk sx L INV 105 184 [vI a, vI b]) ∧
  (∀ a b, inR a → inR b → OpOk sx L INV 106 190 [vI a, vI b]) ∧
  (OpOk sx L INV 107 191 []) ∧
  (∀ a, inR a → OpOk sx L INV 108 192 [vI a]) ∧
  (∀ a, inR a → OpOk sx L INV 109 199 [vI a]) ∧
  (∀ a, inR a → OpOk sx L INV 110 200 [vI a]) ∧
  (∀ a, inR a → OpOk sx L INV 111 204 [vI a]) ∧
  (∀ a b, inR a → inR b → OpOk sx L INV 112 205 [vI a, vI b]) ∧
  (∀ a, inR a → OpOk sx L INV 113 207 [vI a]) ∧
  (∀ a b c, inR a → inR b → inR c → OpOk sx L INV 114 208 [vI a, vI b, vI c]) ∧
  (∀ a, inR a → OpOk sx L INV 115 209 [vI a]) ∧
  (∀ a, inR a → OpOk sx L INV 116 213 [vI a]) ∧
  (∀ a b c, inR a → inR b → inR c → OpOk sx L INV 117 216 [vI a, vI b, vI c]) ∧
  (∀ a, inR a → OpOk sx L INV 118 217 [vI a]) ∧
  (∀ a b c d, inR a → inR b → inR c → inR d → OpOk sx L INV 119 220 [vI a, vI b, vI c, vI d]) ∧
  (∀ a b c, inR a → inR b → inR c → OpOk sx L INV 120 221 [vI a, vI b, vI c]) ∧
  (∀ a b c d e, inR a → inR b → inR c → inR d → inR e → OpOk sx L INV 121 222 [vI a, vI b, vI c, vI d, vI e]) ∧
  (∀ a, inR a → OpOk sx L INV 122 223 [vI a]) ∧
  (∀ a, inR a → OpOk sx L INV 123 224 [vI a]) ∧
  OpOkL sx L INV 124 225 []
theorem and31 {x : Int} : 0 ≤ iAnd x 31 ∧ iAnd x 31 ≤ 31 := by
  unfold iAnd
  have h : ∀ y : BitVec 32, 0 ≤ (y &&& 31#32).toInt ∧ (y &&& 31#32).toInt ≤ 31 := by
    intro y
    have h1 : (y &&& 31#32).toNat ≤ 31 := by
      rw [BitVec.toNat_and]
      exact Nat.and_le_right
    have h2 : (y &&& 31#32).toInt = (y &&& 31#32).toNat := by
      rw [BitVec.toInt_eq_toNat_of_lt (by omega)]
    omega
  have := h (Int32.ofInt x).toBitVec
  exact this
theorem law_loop {sx : Int → Int} {L : Nat} {INV : Mem → Prop} (hL : L ≤ 3072) (hsx : ∀ j, inR (sx j)) (H : Ops sx L INV) : ∀ (n : Nat) (x3 : Int) (M : Mem), INV M → 0 ≤ x3 → (L : Int) + 6 ≤ x3 + n → Rn sx L K0 R0 227 1 [vR 1, vR 2, vR 106, vI x3] [] M (fun rv _ => rv = some (vI 1)) := by
  obtain ⟨o0, o1, o2, o3, o4, o5, o6, o7, o8, o9, o10, o11, o12, o13, o14, o15, o16, o17, o18, o19, o20, o21, o22, o23, o24, o25, o26, o27, o28, o29, o30⟩ := H
  intro n
  induction n with
  | zero =>
    intro x3 M hI h0 hn
    refine b_227_1 ⟨⟨by omega, by omega⟩, fun _ => b_227_38 rfl, fun q => absurd ?_ q⟩
    omega
  | succ n ih =>
    intro x3 M hI h0 hn
    by_cases hx : (L : Int) - 6 < x3
    · exact b_227_1 ⟨⟨by omega, by omega⟩, fun _ => b_227_38 rfl, fun q => absurd hx q⟩
    have nx : ∀ M, INV M → Rn sx L K0 R0 227 37 [vR 1, vR 2, vR 106, vI x3] [] M (fun rv _ => rv = some (vI 1)) := fun M hI => b_227_37 ⟨⟨by omega, by omega⟩, ih _ M hI (by omega) (by omega)⟩
    have A : ∀ k : Int, 1 ≤ k → k ≤ 5 → inR (x3 + k) ∧ 0 ≤ x3 + k ∧ x3 + k < (L : Int) := fun k h1 h2 => ⟨⟨by omega, by omega⟩, by omega, by omega⟩
    have a1 := A 1 (by omega) (by omega)
    have a2 := A 2 (by omega) (by omega)
    have a3 := A 3 (by omega) (by omega)
    have a4 := A 4 (by omega) (by omega)
    have a5 := A 5 (by omega) (by omega)
    refine b_227_1 ⟨⟨by omega, by omega⟩, fun q => absurd q hx, fun _ => ⟨⟨h0, by omega⟩, ?_⟩⟩
    refine ⟨fun _ => nx M hI, ?_⟩
    refine ⟨fun _ => ?_, fun _ => ?_, fun _ => ?_, fun _ => ?_, fun _ => ?_, fun _ => ?_, fun _ => ?_, fun _ => ?_, fun _ => ?_, fun _ => ?_, fun _ => ?_, fun _ => ?_, fun _ => ?_, fun _ => ?_, fun _ => ?_, fun _ => ?_, fun _ => ?_, fun _ => ?_, fun _ => ?_, fun _ => ?_, fun _ => ?_, fun _ => ?_, fun _ => ?_, fun _ => ?_, fun _ => ?_, fun _ => ?_, fun _ => ?_, fun _ => ?_, fun _ => ?_, fun _ => ?_, fun _ => ?_⟩
    · refine b_227_2 ⟨a1.1, a1.2, a2.1, a2.2, Mq.mono (o0 _ _ (hsx _) (hsx _) M hI) ?_⟩
      rintro rv M1 ⟨r, rfl, h⟩
      refine ⟨r, rfl, a1.1, a1.2, a2.1, a2.2, Mq.mono h ?_⟩
      rintro rv M2 ⟨rfl, hI2⟩
      exact ⟨r, rfl, fun _ => nx M2 hI2, fun q => absurd rfl q⟩
    · refine b_227_3 ⟨a1.1, a1.2, a2.1, a2.2, a3.1, a3.2, Mq.mono (o1 _ _ _ (hsx _) (hsx _) (hsx _) M hI) ?_⟩
      rintro rv M1 ⟨r, rfl, h⟩
      refine ⟨r, rfl, a1.1, a1.2, a2.1, a2.2, a3.1, a3.2, Mq.mono h ?_⟩
      rintro rv M2 ⟨rfl, hI2⟩
      exact ⟨r, rfl, fun _ => nx M2 hI2, fun q => absurd rfl q⟩
    · refine b_227_4 ⟨a1.1, a1.2, a2.1, a2.2, Mq.mono (o2 _ _ (hsx _) (hsx _) M hI) ?_⟩
      rintro rv M1 ⟨r, rfl, h⟩
      refine ⟨r, rfl, a1.1, a1.2, a2.1, a2.2, Mq.mono h ?_⟩
      rintro rv M2 ⟨rfl, hI2⟩
      exact ⟨r, rfl, fun _ => nx M2 hI2, fun q => absurd rfl q⟩
    · refine b_227_5 ⟨a1.1, a1.2, Mq.mono (o3 _ (hsx _) M hI) ?_⟩
      rintro rv M1 ⟨r, rfl, h⟩
      refine ⟨r, rfl, a1.1, a1.2, Mq.mono h ?_⟩
      rintro rv M2 ⟨rfl, hI2⟩
      exact ⟨r, rfl, fun _ => nx M2 hI2, fun q => absurd rfl q⟩
    · refine b_227_6 ⟨a1.1, a1.2, Mq.mono (o4 _ (hsx _) M hI) ?_⟩
      rintro rv M1 ⟨r, rfl, h⟩
      refine ⟨r, rfl, a1.1, a1.2, Mq.mono h ?_⟩
      rintro rv M2 ⟨rfl, hI2⟩
      exact ⟨r, rfl, fun _ => nx M2 hI2, fun q => absurd rfl q⟩
    · refine b_227_7 ⟨a1.1, a1.2, a2.1, a2.2, Mq.mono (o5 _ _ (hsx _) (hsx _) M hI) ?_⟩
      rintro rv M1 ⟨r, rfl, h⟩
      refine ⟨r, rfl, a1.1, a1.2, a2.1, a2.2, Mq.mono h ?_⟩
      rintro rv M2 ⟨rfl, hI2⟩
      exact ⟨r, rfl, fun _ => nx M2 hI2, fun q => absurd rfl q⟩
    · refine b_227_8 ⟨a1.1, a1.2, a2.1, a2.2, a3.1, a3.2, Mq.mono (o6 _ _ _ (hsx _) (hsx _) (hsx _) M hI) ?_⟩
      rintro rv M1 ⟨r, rfl, h⟩
      refine ⟨r, rfl, a1.1, a1.2, a2.1, a2.2, a3.1, a3.2, Mq.mono h ?_⟩
      rintro rv M2 ⟨rfl, hI2⟩
      exact ⟨r, rfl, fun _ => nx M2 hI2, fun q => absurd rfl q⟩
    · refine b_227_9 ⟨a1.1, a1.2, a2.1, a2.2, ?_⟩
      have go : ∀ z : Int, (z = 0 ∨ z = 1) → (sx (x3 + 2) = 0 → z = 0) → (¬ sx (x3 + 2) = 0 → z = 1) → Rn sx L K0 R0 227 11 [vR 1, vR 2, vR 106, vI x3] [vI z, vI (sx (x3 + 1)), vR 2] M (fun rv _ => rv = some (vI 1)) := by
        intro z hz hz0 hz1
        refine b_227_11 (Mq.mono (o7 _ _ (hsx _) hz M hI) ?_)
        rintro rv M1 ⟨r, rfl, h⟩
        have fin : Rn sx L K0 R0 227 13 [vR 1, vR 2, vR 106, vI x3] [vI z, vI (sx (x3 + 1)), vR 106, vI r] M1 (fun rv _ => rv = some (vI 1)) := by
          refine b_227_13 (Mq.mono h ?_)
          rintro rv M2 ⟨rfl, hI2⟩
          exact ⟨r, rfl, fun _ => nx M2 hI2, fun q => absurd rfl q⟩
        refine ⟨r, rfl, a1.1, a1.2, a2.1, a2.2, fun q => ?_, fun q => ?_⟩
        · rw [hz0 q] at fin
          exact b_227_12 fin
        · rw [hz1 q] at fin
          exact fin
      exact ⟨fun q => b_227_10 (go 0 (Or.inl rfl) (fun _ => rfl) (fun q2 => absurd q q2)), fun q => go 1 (Or.inr rfl) (fun q2 => absurd q2 q) (fun _ => rfl)⟩
    · refine b_227_14 ⟨a1.1, a1.2, a2.1, a2.2, Mq.mono (o8 _ _ (hsx _) (hsx _) M hI) ?_⟩
      rintro rv M1 ⟨r, rfl, h⟩
      refine ⟨r, rfl, a1.1, a1.2, a2.1, a2.2, Mq.mono h ?_⟩
      rintro rv M2 ⟨rfl, hI2⟩
      exact ⟨r, rfl, fun _ => nx M2 hI2, fun q => absurd rfl q⟩
    · refine b_227_15 ⟨a1.1, a1.2, a2.1, a2.2, Mq.mono (o9 _ _ (hsx _) (hsx _) M hI) ?_⟩
      rintro rv M1 ⟨r, rfl, h⟩
      refine ⟨r, rfl, a1.1, a1.2, a2.1, a2.2, Mq.mono h ?_⟩
      rintro rv M2 ⟨rfl, hI2⟩
      exact ⟨r, rfl, fun _ => nx M2 hI2, fun q => absurd rfl q⟩
    · refine b_227_16 ⟨a1.1, a1.2, a2.1, a2.2, Mq.mono (o10 _ _ (hsx _) (hsx _) M hI) ?_⟩
      rintro rv M1 ⟨r, rfl, h⟩
      refine ⟨r, rfl, a1.1, a1.2, a2.1, a2.2, Mq.mono h ?_⟩
      rintro rv M2 ⟨rfl, hI2⟩
      exact ⟨r, rfl, fun _ => nx M2 hI2, fun q => absurd rfl q⟩
    · refine b_227_17 ⟨a1.1, a1.2, a2.1, a2.2, Mq.mono (o11 _ _ (hsx _) (hsx _) M hI) ?_⟩
      rintro rv M1 ⟨r, rfl, h⟩
      refine ⟨r, rfl, a1.1, a1.2, a2.1, a2.2, Mq.mono h ?_⟩
      rintro rv M2 ⟨rfl, hI2⟩
      exact ⟨r, rfl, fun _ => nx M2 hI2, fun q => absurd rfl q⟩
    · refine b_227_18 ⟨a1.1, a1.2, a2.1, a2.2, Mq.mono (o12 _ _ (hsx _) (hsx _) M hI) ?_⟩
      rintro rv M1 ⟨r, rfl, h⟩
      refine ⟨r, rfl, a1.1, a1.2, a2.1, a2.2, Mq.mono h ?_⟩
      rintro rv M2 ⟨rfl, hI2⟩
      exact ⟨r, rfl, fun _ => nx M2 hI2, fun q => absurd rfl q⟩
    · refine b_227_19 (Mq.mono (o13 M hI) ?_)
      rintro rv M1 ⟨r, rfl, h⟩
      refine ⟨r, rfl, Mq.mono h ?_⟩
      rintro rv M2 ⟨rfl, hI2⟩
      exact ⟨r, rfl, fun _ => nx M2 hI2, fun q => absurd rfl q⟩
    · refine b_227_20 ⟨a1.1, a1.2, Mq.mono (o14 _ (hsx _) M hI) ?_⟩
      rintro rv M1 ⟨r, rfl, h⟩
      refine ⟨r, rfl, a1.1, a1.2, Mq.mono h ?_⟩
      rintro rv M2 ⟨rfl, hI2⟩
      exact ⟨r, rfl, fun _ => nx M2 hI2, fun q => absurd rfl q⟩
    · refine b_227_21 ⟨a1.1, a1.2, Mq.mono (o15 _ (hsx _) M hI) ?_⟩
      rintro rv M1 ⟨r, rfl, h⟩
      refine ⟨r, rfl, a1.1, a1.2, Mq.mono h ?_⟩
      rintro rv M2 ⟨rfl, hI2⟩
      exact ⟨r, rfl, fun _ => nx M2 hI2, fun q => absurd rfl q⟩
    · refine b_227_22 ⟨a1.1, a1.2, Mq.mono (o16 _ (hsx _) M hI) ?_⟩
      rintro rv M1 ⟨r, rfl, h⟩
      refine ⟨r, rfl, a1.1, a1.2, Mq.mono h ?_⟩
      rintro rv M2 ⟨rfl, hI2⟩
      exact ⟨r, rfl, fun _ => nx M2 hI2, fun q => absurd rfl q⟩
    · refine b_227_23 ⟨a1.1, a1.2, Mq.mono (o17 _ (hsx _) M hI) ?_⟩
      rintro rv M1 ⟨r, rfl, h⟩
      refine ⟨r, rfl, a1.1, a1.2, Mq.mono h ?_⟩
      rintro rv M2 ⟨rfl, hI2⟩
      exact ⟨r, rfl, fun _ => nx M2 hI2, fun q => absurd rfl q⟩
    · refine b_227_24 ⟨a1.1, a1.2, a2.1, a2.2, Mq.mono (o18 _ _ (hsx _) (hsx _) M hI) ?_⟩
      rintro rv M1 ⟨r, rfl, h⟩
      refine ⟨r, rfl, a1.1, a1.2, a2.1, a2.2, Mq.mono h ?_⟩
      rintro rv M2 ⟨rfl, hI2⟩
      exact ⟨r, rfl, fun _ => nx M2 hI2, fun q => absurd rfl q⟩
    · refine b_227_25 ⟨a1.1, a1.2, Mq.mono (o19 _ (hsx _) M hI) ?_⟩
      rintro rv M1 ⟨r, rfl, h⟩
      refine ⟨r, rfl, a1.1, a1.2, Mq.mono h ?_⟩
      rintro rv M2 ⟨rfl, hI2⟩
      exact ⟨r, rfl, fun _ => nx M2 hI2, fun q => absurd rfl q⟩
    · refine b_227_26 ⟨a1.1, a1.2, a2.1, a2.2, a3.1, a3.2, Mq.mono (o20 _ _ _ (hsx _) (hsx _) (hsx _) M hI) ?_⟩
      rintro rv M1 ⟨r, rfl, h⟩
      refine ⟨r, rfl, a1.1, a1.2, a2.1, a2.2, a3.1, a3.2, Mq.mono h ?_⟩
      rintro rv M2 ⟨rfl, hI2⟩
      exact ⟨r, rfl, fun _ => nx M2 hI2, fun q => absurd rfl q⟩
    · refine b_227_27 ⟨a1.1, a1.2, Mq.mono (o21 _ (hsx _) M hI) ?_⟩
      rintro rv M1 ⟨r, rfl, h⟩
      refine ⟨r, rfl, a1.1, a1.2, Mq.mono h ?_⟩
      rintro rv M2 ⟨rfl, hI2⟩
      exact ⟨r, rfl, fun _ => nx M2 hI2, fun q => absurd rfl q⟩
    · refine b_227_28 ⟨a1.1, a1.2, Mq.mono (o22 _ (hsx _) M hI) ?_⟩
      rintro rv M1 ⟨r, rfl, h⟩
      refine ⟨r, rfl, a1.1, a1.2, Mq.mono h ?_⟩
      rintro rv M2 ⟨rfl, hI2⟩
      exact ⟨r, rfl, fun _ => nx M2 hI2, fun q => absurd rfl q⟩
    · refine b_227_29 ⟨a1.1, a1.2, a2.1, a2.2, a3.1, a3.2, Mq.mono (o23 _ _ _ (hsx _) (hsx _) (hsx _) M hI) ?_⟩
      rintro rv M1 ⟨r, rfl, h⟩
      refine ⟨r, rfl, a1.1, a1.2, a2.1, a2.2, a3.1, a3.2, Mq.mono h ?_⟩
      rintro rv M2 ⟨rfl, hI2⟩
      exact ⟨r, rfl, fun _ => nx M2 hI2, fun q => absurd rfl q⟩
    · refine b_227_30 ⟨a1.1, a1.2, Mq.mono (o24 _ (hsx _) M hI) ?_⟩
      rintro rv M1 ⟨r, rfl, h⟩
      refine ⟨r, rfl, a1.1, a1.2, Mq.mono h ?_⟩
      rintro rv M2 ⟨rfl, hI2⟩
      exact ⟨r, rfl, fun _ => nx M2 hI2, fun q => absurd rfl q⟩
    · refine b_227_31 ⟨a1.1, a1.2, a2.1, a2.2, a3.1, a3.2, a4.1, a4.2, Mq.mono (o25 _ _ _ _ (hsx _) (hsx _) (hsx _) (hsx _) M hI) ?_⟩
      rintro rv M1 ⟨r, rfl, h⟩
      refine ⟨r, rfl, a1.1, a1.2, a2.1, a2.2, a3.1, a3.2, a4.1, a4.2, Mq.mono h ?_⟩
      rintro rv M2 ⟨rfl, hI2⟩
      exact ⟨r, rfl, fun _ => nx M2 hI2, fun q => absurd rfl q⟩
    · refine b_227_32 ⟨a1.1, a1.2, a2.1, a2.2, a3.1, a3.2, Mq.mono (o26 _ _ _ (hsx _) (hsx _) (hsx _) M hI) ?_⟩
      rintro rv M1 ⟨r, rfl, h⟩
      refine ⟨r, rfl, a1.1, a1.2, a2.1, a2.2, a3.1, a3.2, Mq.mono h ?_⟩
      rintro rv M2 ⟨rfl, hI2⟩
      exact ⟨r, rfl, fun _ => nx M2 hI2, fun q => absurd rfl q⟩
    · refine b_227_33 ⟨a1.1, a1.2, a2.1, a2.2, a3.1, a3.2, a4.1, a4.2, a5.1, a5.2, Mq.mono (o27 _ _ _ _ _ (hsx _) (hsx _) (hsx _) (hsx _) (hsx _) M hI) ?_⟩
      rintro rv M1 ⟨r, rfl, h⟩
      refine ⟨r, rfl, a1.1, a1.2, a2.1, a2.2, a3.1, a3.2, a4.1, a4.2, a5.1, a5.2, Mq.mono h ?_⟩
      rintro rv M2 ⟨rfl, hI2⟩
      exact ⟨r, rfl, fun _ => nx M2 hI2, fun q => absurd rfl q⟩
    · refine b_227_34 ⟨a1.1, a1.2, Mq.mono (o28 _ (hsx _) M hI) ?_⟩
      rintro rv M1 ⟨r, rfl, h⟩
      refine ⟨r, rfl, a1.1, a1.2, Mq.mono h ?_⟩
      rintro rv M2 ⟨rfl, hI2⟩
      exact ⟨r, rfl, fun _ => nx M2 hI2, fun q => absurd rfl q⟩
    · refine b_227_35 ⟨a1.1, a1.2, Mq.mono (o29 _ (hsx _) M hI) ?_⟩
      rintro rv M1 ⟨r, rfl, h⟩
      refine ⟨r, rfl, a1.1, a1.2, Mq.mono h ?_⟩
      rintro rv M2 ⟨rfl, hI2⟩
      exact ⟨r, rfl, fun _ => nx M2 hI2, fun q => absurd rfl q⟩
    · refine b_227_36 (Mq.mono (o30 M hI) ?_)
      rintro rv M1 ⟨r, rfl, h⟩
      refine ⟨r, rfl, Mq.mono h ?_⟩
      rintro rv M2 ⟨rfl, hI2⟩
      refine ⟨r, rfl, fun _ => nx M2 hI2, fun q => absurd ?_ q⟩
      rw [if_neg (by omega), if_pos rfl]
theorem run_s {sx : Int → Int} {L n mi : Nat} {e0 : En} {es : List En} {fl : Nat} {ls st ls' st' : List AV} {σ σ' : Sg} (hr : rtV mi e0 st = none) (hc : clV e0 st σ = none) (hs : stp sx L e0 ls st σ = some (0, ls', st', σ')) : run sx L (n + 1) mi (e0 :: es) fl ls st σ = run sx L n mi es fl ls' st' σ' := by
  simp only [run, hr, hc, hs]
theorem run_c {sx : Int → Int} {L n mi mi' : Nat} {e0 : En} {es : List En} {fl : Nat} {ls st av rest : List AV} {σ σ' : Sg} {rv : Option AV} (hr : rtV mi e0 st = none) (hc : clV e0 st σ = some (mi', av, rest)) (h2 : run sx L n mi' (blk mi' 0).1 (blk mi' 0).2 (ini mi' av) [] σ = some (rv, σ')) : run sx L (n + 1) mi (e0 :: es) fl ls st σ = run sx L n mi es fl ls (rv.toList ++ rest) σ' := by
  simp only [run, hr, hc, h2]
theorem run_n {sx : Int → Int} {L n mi : Nat} {fl : Nat} {ls st : List AV} {σ : Sg} : run sx L (n + 1) mi [] fl ls st σ = run sx L n mi (blk mi fl).1 (blk mi fl).2 ls st σ := by
  simp only [run]
theorem stp_new {sx : Int → Int} {L pc ln i ci w : Nat} {ls st : List AV} {σ : Sg} (h : ci < 10) {x : Nat} (hx : σ.1.length + 2 = x) : stp sx L (pc, ln, .new i, [ci, w]) ls st σ = some (0, ls, vR x :: st, σN σ ci) := by
  subst hx
  simp only [stp, a1, if_pos h, σN]
theorem clr_x {pc ln i w mi' c kd n : Nat} {r : List AV} {σ : Sg} (hm : 1 ≤ mL mi') (hk : σ.1[c]? = some (kd, n)) (hkd : kd = mK mi') (hr : catS r ≤ 8) : clV (pc, ln, .invokespecial i, [mi', w, 0]) (vR (c + 2) :: r) σ = some (mi', [vR (c + 2)], r) := by
  simp only [clV, clR, List.take_zero, List.drop_zero, List.all_nil, List.length_cons, hk]
  rw [if_pos ⟨by omega, by omega, trivial⟩, if_pos ⟨hkd, hr⟩]
  rfl
theorem isN_e {z : Option (Option AV × Sg)} (h : isN z = true) : z = some (none, outS z) := by
  unfold isN at h
  split at h
  · rfl
  · cases h
theorem law_ini : ini 227 [vR 1] = [vR 1, vU, vU, vU] := by
  unfold ini
  rw [law_L]
  rfl
theorem law_of {INV : (Int → Int) → Nat → Mem → Prop} (h0 : ∀ sx L, INV sx L σ2.2.2) (H : ∀ sx L, L ≤ 3072 → (∀ j, inR (sx j)) → Ops sx L (INV sx L)) : LawRun := by
  intro sx L hL hsx
  obtain ⟨n, rv, M', hr, rfl⟩ := law_loop hL hsx (H sx L hL hsx) (L + 6) 0 σ2.2.2 (h0 sx L) (by omega) (by omega)
  refine ⟨(n + 20000) + 11, (K0, R0, M'), ?_, ?_, ?_⟩
  · have e1 : ctA = some (none, σ1) := isN_e ctA_ok
    have e2 : ctB = some (none, σ2) := isN_e ctB_ok
    have r1 : ∀ k, run sx L (20000 + k) 93 (blk 93 0).1 (blk 93 0).2 (ini 93 [vR 2]) [] (σN σE 8) = some (none, σ1) := fun k => run_up _ _ _ _ _ _ _ _ (rnq_run _ _ _ _ _ _ _ _ e1) k
    have r2 : ∀ k, run sx L (20000 + k) 136 (blk 136 0).1 (blk 136 0).2 (ini 136 [vR 106]) [] (σN σ1 9) = some (none, σ2) := fun k => run_up _ _ _ _ _ _ _ _ (rnq_run _ _ _ _ _ _ _ _ e2) k
    have hl1 : σ1.1.length = 104 := by decide +kernel
    rw [law_ini]
    show run sx L (n + 20000 + 10 + 1) 227 [(0, 3, .new 7, [8, 157]), (3, 1, .dup, []), (4, 3, .invokespecial 9, [93, 159, 0]), (7, 1, .astore_n 1, []), (8, 3, .new 10, [9, 1148]), (11, 1, .dup, []), (12, 3, .invokespecial 12, [136, 1150, 0]), (15, 1, .astore_n 2, []), (16, 1, .iconst 0, []), (17, 1, .istore_n 3, [])] 1 [vR 1, vU, vU, vU] [] σE = _
    rw [run_s (ls' := [vR 1, vU, vU, vU]) (st' := [vR 2]) (σ' := σN σE 8) rfl rfl (stp_new (by omega) rfl)]
    rw [run_s (ls' := [vR 1, vU, vU, vU]) (st' := [vR 2, vR 2]) (σ' := σN σE 8) rfl rfl rfl]
    rw [run_c (mi' := 93) (av := [vR 2]) (rest := [vR 2]) (rv := none) (σ' := σ1) rfl (clr_x (c := 0) (kd := 8) (n := 10) (by decide +kernel) rfl (by decide +kernel) (by decide)) (by rw [show n + 20000 + 8 = 20000 + (n + 8) by omega]; exact r1 _)]
    show run sx L (n + 20000 + 7 + 1) 227 _ 1 [vR 1, vU, vU, vU] [vR 2] σ1 = _
    rw [run_s (ls' := [vR 1, vR 2, vU, vU]) (st' := []) (σ' := σ1) rfl rfl rfl]
    rw [run_s (ls' := [vR 1, vR 2, vU, vU]) (st' := [vR 106]) (σ' := σN σ1 9) rfl rfl (stp_new (by omega) (by rw [hl1]))]
    rw [run_s (ls' := [vR 1, vR 2, vU, vU]) (st' := [vR 106, vR 106]) (σ' := σN σ1 9) rfl rfl rfl]
    rw [run_c (mi' := 136) (av := [vR 106]) (rest := [vR 106]) (rv := none) (σ' := σ2) rfl (clr_x (c := 104) (kd := 9) (n := 65) (by decide +kernel) (by rw [← hl1]; exact List.getElem?_concat_length) (by decide +kernel) (by decide)) (by rw [show n + 20000 + 4 = 20000 + (n + 4) by omega]; exact r2 _)]
    show run sx L (n + 20000 + 3 + 1) 227 _ 1 [vR 1, vR 2, vU, vU] [vR 106] σ2 = _
    rw [run_s (ls' := [vR 1, vR 2, vR 106, vU]) (st' := []) (σ' := σ2) rfl rfl rfl]
    rw [run_s (ls' := [vR 1, vR 2, vR 106, vU]) (st' := [vI 0]) (σ' := σ2) rfl rfl rfl]
    rw [run_s (ls' := [vR 1, vR 2, vR 106, vI 0]) (st' := []) (σ' := σ2) rfl rfl rfl]
    rw [run_n]
    have e3 : σ2 = (K0, R0, σ2.2.2) := by
      have q : σ2.2.1 = R0 := by unfold R0; rfl
      rw [← q, ← K0_eq]
    rw [e3]
    exact run_up _ _ _ _ _ _ _ _ hr 20000
  · have : K0.length ≤ 600000 := by decide +kernel
    exact this
  · have : slN K0 ≤ 7302250 := by decide +kernel
    exact this
