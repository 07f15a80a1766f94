/-! a run that is tried -/
section
variable {sx : Int → Int} {L : Nat} {M V P P1 P2 s1 s2 : Mem} {Q : Option AV → Mem → Prop} {SR : (Mem → Prop) × (Mem → Prop)}
/-- how late all is, as the reference tries it -/
theorem s_201 (pv : PV M) (hT : 1 ≤ M 104 25 ∧ M 104 25 ≤ 120) (hQ : ∀ s0 M', IniS s0 → M' 104 26 = 0 → (∀ c k, ¬ runC c k → ¬ (c = 104 ∧ k = 26) → M' c k = M c k) → Q (some (vI (ltA M (rnF M s0 (M 104 25).toNat) (M 104 25)))) M') : Mq sx L K0 R0 201 [vR 106] M Q := by
  refine m_201 (b_201_0 (s_178 (P := M) pv (fun _ _ _ => rfl) hT fun s0 M4 hi mr f4 => ⟨rfl, ?_⟩))
  have ri := rn_R pv hi (M 104 25).toNat (by omega)
  have tm : TM M (rnF M s0 (M 104 25).toNat) (mset M4 104 26 0) := mr.tm.fr fun c k q => ms_ne (by unfold isS at q; omega)
  exact s_180 pv ri tm ⟨_, rfl, hQ s0 _ hi ms_eq fun c k a b => by rw [ms_ne b]; exact f4 c k a⟩
/-- whether a run is late hangs on nothing but what is told and the setting -/
theorem lt_ind {S : Nat} (hS : isSt S) (hb : BASE V) (h1 : PDs P1 V S) (h2 : PDs P2 V S) (i1 : IniS s1) (i2 : IniS s2) {T : Int} (t0 : 0 ≤ T) (t1 : T ≤ 120) : 0 < ltA P1 (rnF P1 s1 T.toNat) T ↔ 0 < ltA P2 (rnF P2 s2 T.toNat) T := by
  obtain ⟨_, _, M', _, g⟩ := s_36all (sx := fun x => x) (L := 0) (B := 75) (S := S) (u := 1) (Or.inr rfl) hS hb h1 t0 t1 (Q := fun _ M' => ∀ P s0, PDs P V S → IniS s0 → GoR P s0 M' 75 T 1) fun M' g _ => g
  exact (g P1 s1 h1 i1).2.1.symm.trans (g P2 s2 h2 i2).2.1
end
