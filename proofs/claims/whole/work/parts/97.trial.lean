/-! the trial setting -/
section
variable {sx : Int → Int} {L : Nat} {M M' P : Mem} {Q : Option AV → Mem → Prop} {SR : (Mem → Prop) × (Mem → Prop)}
/-- the trial setting and its run, and nothing else -/
def TrF (M M' : Mem) : Prop := ∀ c k, ¬ (75 ≤ c ∧ c ≤ 100) → M' c k = M c k
theorem TrF.tr {M1 M2 : Mem} (f : TrF M M1) (g : TrF M1 M2) : TrF M M2 := fun c k q => (g c k q).trans (f c k q)
theorem TrF.bf (f : TrF M M') : BFr M M' := fun c k q => f c k (by unfold baseC at q; omega)
theorem INVM.tri (hs : SROK SR) (h : INVM SR M) (f : TrF M M') : INVM SR M' := by
  obtain ⟨⟨h1, h2, h3, h4, h5, h6, h7⟩, h8⟩ := h
  have b := f.bf
  refine ⟨⟨h1.fr b, ?_, by rw [f 104 32 (by omega)]; exact h3, h4.fr b fun c k q => f c k (by omega), hs.1 M M' h5 b fun c k q => f c k (by omega), hs.2.2 M M' h6 fun c k q => f c k (by omega), FND.fr h7 (f _ _ (by omega)) (f _ _ (by omega))⟩, h8.fr b fun c k q => f c k (by unfold isS at q; omega)⟩
  unfold RDI
  rw [f 104 10 (by omega)]
  exact h2.imp id fun w => ⟨w.1, w.2.fr b fun c k q => f c k (by omega)⟩
/-- the trial is as the setting is -/
def AsS (M M' : Mem) : Prop := (∀ k, (k = 0 ∨ 4 ≤ k ∧ k ≤ 10) → M' 97 k = M 6 k) ∧ ∀ j, 0 ≤ j → j < 8 → M' 98 j = M 7 j ∧ M' 99 j = M 8 j ∧ M' 100 j = M 9 j
theorem s_75 (hQ : ∀ M', AsS M M' → (∀ c k, ¬ (97 ≤ c ∧ c ≤ 100) → M' c k = M c k) → Q none M') : Mq sx L K0 R0 75 [vR 99, vR 8] M Q := by
  have h6 : isSt 6 := Or.inl rfl
  have h97 : isSt 97 := Or.inr rfl
  refine m_75 (b_75_0 (c0 := 97) (c1 := 6) h97 h6 ?_)
  refine lpM (N := 8) (I := fun j M1 => M1 97 0 = M 6 0 ∧ (∀ i, 0 ≤ i → i < j → M1 98 i = M 7 i ∧ M1 99 i = M 8 i ∧ M1 100 i = M 9 i) ∧ ∀ c k, ¬ (97 ≤ c ∧ c ≤ 100) → M1 c k = M c k) (G := fun j M1 => Rn sx L K0 R0 75 1 [vR (97 + 2), vR (6 + 2), vI j] [] M1 Q) (fun j M1 j0 j1 hI ih => ?_) (fun M1 hI => b_75_1 h97 h6 ⟨fun _ => b_75_2 h97 h6 ?_, fun q => absurd (by omega) q⟩) 0 _ (by omega) (by omega) ⟨ms_eq, fun i a b => by omega, fun c k q => ms_ne (by omega)⟩
  · obtain ⟨i1, i2, i3⟩ := hI
    refine b_75_1 h97 h6 ⟨fun q => absurd q (by omega), fun _ => ⟨⟨j0, j1⟩, ⟨j0, j1⟩, ⟨j0, j1⟩, ⟨j0, j1⟩, ⟨j0, j1⟩, ⟨j0, j1⟩, ⟨by omega, by omega⟩, ih _ ⟨?_, fun i x y => ?_, fun c k q => ?_⟩⟩⟩
    · rw [ms_c (by omega), ms_c (by omega), ms_c (by omega)]; exact i1
    · by_cases e : i = j
      · rw [e]
        refine ⟨?_, ?_, ?_⟩
        · rw [ms_c (by omega), ms_c (by omega), ms_eq]; exact i3 7 j (by omega)
        · rw [ms_c (by omega), ms_eq, ms_c (by omega)]; exact i3 8 j (by omega)
        · rw [ms_eq, ms_c (by omega), ms_c (by omega)]; exact i3 9 j (by omega)
      · obtain ⟨x1, x2, x3⟩ := i2 i x (by omega)
        refine ⟨?_, ?_, ?_⟩
        · rw [ms_c (by omega), ms_c (by omega), ms_k e]; exact x1
        · rw [ms_c (by omega), ms_k e, ms_c (by omega)]; exact x2
        · rw [ms_k e, ms_c (by omega), ms_c (by omega)]; exact x3
    · rw [ms_c (by omega), ms_c (by omega), ms_c (by omega)]; exact i3 c k q
  · obtain ⟨i1, i2, i3⟩ := hI
    have z6 : ∀ (N : Mem) (k v j : Int), mset N 97 k v 6 j = N 6 j := fun N k v j => ms_c (by omega)
    simp only [z6]
    have e6 : ∀ k, M1 6 k = M 6 k := fun k => i3 6 k (by omega)
    simp only [e6]
    refine hQ _ ⟨fun k hk => ?_, fun j j0 j1 => ?_⟩ fun c k q => ?_
    · have : k = 0 ∨ k = 4 ∨ k = 5 ∨ k = 6 ∨ k = 7 ∨ k = 8 ∨ k = 9 ∨ k = 10 := by omega
      rcases this with rfl | rfl | rfl | rfl | rfl | rfl | rfl | rfl
      · rw [ms_k (by omega), ms_k (by omega), ms_k (by omega), ms_k (by omega), ms_k (by omega), ms_k (by omega), ms_k (by omega)]; exact i1
      · rw [ms_k (by omega), ms_k (by omega), ms_k (by omega), ms_k (by omega), ms_k (by omega), ms_k (by omega), ms_eq]
      · rw [ms_k (by omega), ms_k (by omega), ms_k (by omega), ms_k (by omega), ms_k (by omega), ms_eq]
      · rw [ms_k (by omega), ms_k (by omega), ms_k (by omega), ms_k (by omega), ms_eq]
      · rw [ms_k (by omega), ms_k (by omega), ms_k (by omega), ms_eq]
      · rw [ms_k (by omega), ms_k (by omega), ms_eq]
      · rw [ms_k (by omega), ms_eq]
      · exact ms_eq
    · rw [ms_c (by omega), ms_c (by omega), ms_c (by omega), ms_c (by omega), ms_c (by omega), ms_c (by omega), ms_c (by omega), ms_c (c' := 99) (by omega), ms_c (c' := 99) (by omega), ms_c (c' := 99) (by omega), ms_c (c' := 99) (by omega), ms_c (c' := 99) (by omega), ms_c (c' := 99) (by omega), ms_c (c' := 99) (by omega), ms_c (c' := 100) (by omega), ms_c (c' := 100) (by omega), ms_c (c' := 100) (by omega), ms_c (c' := 100) (by omega), ms_c (c' := 100) (by omega), ms_c (c' := 100) (by omega), ms_c (c' := 100) (by omega)]
      exact i2 j j0 j1
    · rw [ms_c (by omega), ms_c (by omega), ms_c (by omega), ms_c (by omega), ms_c (by omega), ms_c (by omega), ms_c (by omega)]; exact i3 c k q
theorem FrB.trf (f : FrB 75 M M') : TrF M M' := fun c k q => f c k (by unfold outB; omega)
end
