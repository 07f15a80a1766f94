/-! how both begin; all calls; the law -/
section
def iniB (M : Mem) : Bool :=
  ([(104, 0, 0), (1, 0, 0), (1, 1, 0), (104, 9, 0), (0, 8, 0), (104, 22, 0), (6, 4, 0), (104, 23, 0), (6, 5, 0), (104, 24, 1), (6, 6, 1), (104, 25, 60), (6, 7, 60), (6, 8, -1), (6, 0, 0), (104, 10, 0), (104, 32, 0), (0, 7, 0), (74, 3, 0), (74, 6, 0), (74, 10, 0), (74, 13, 0), (104, 64, 0), (0, 9, 0), (104, 26, 0)] : List (Nat × Int × Int)).all (fun z => decide (M z.1 z.2.1 = z.2.2)) &&
  (List.range 8).all (fun t => decide (M 109 (t : Int) = 0 ∧ M 111 (t : Int) = 10 - (t : Int) ∧ M 7 (t : Int) = 10 - (t : Int) ∧ M 112 (t : Int) = 1 ∧ M 8 (t : Int) = 1 ∧ M 9 (t : Int) = 0) && ([1, 3, 4, 5, 6, 9, 10, 11, 12] : List Int).all fun k => decide (M (plA (t : Int)) k = 0)) &&
  (List.range 4).all (fun s => decide (M (shA (s : Int)) 0 = 1 ∧ M 139 (s : Int) = 0))
theorem ini_ok : iniB σ2.2.2 = true := by decide +kernel
def xE : Int → Int := fun _ => 0
theorem xE_ok : ftF xE 0 0 = 0 ∧ nuW xE 0 (hd1 xE 0) = 0 ∧ nuW xE 0 (hd2 xE 0) = 0 ∧ nuW xE 0 (hd3 xE 0) = 0 ∧ stN xE 0 0 = 0 ∧ wkS xE 0 (a0F xE 0) 0 = 0 ∧ tkS xE 0 (a0F xE 0) 0 = 0 ∧ hsF xE 0 (a0F xE 0) 0 = 0 := by decide +kernel
theorem ini_inv {M : Mem} (h : iniB M = true) : INVM SRz M := by
  unfold iniB at h
  simp only [Bool.and_eq_true] at h
  obtain ⟨⟨h1, h2⟩, h3⟩ := h
  have f : ∀ z ∈ ([(104, 0, 0), (1, 0, 0), (1, 1, 0), (104, 9, 0), (0, 8, 0), (104, 22, 0), (6, 4, 0), (104, 23, 0), (6, 5, 0), (104, 24, 1), (6, 6, 1), (104, 25, 60), (6, 7, 60), (6, 8, -1), (6, 0, 0), (104, 10, 0), (104, 32, 0), (0, 7, 0), (74, 3, 0), (74, 6, 0), (74, 10, 0), (74, 13, 0), (104, 64, 0), (0, 9, 0), (104, 26, 0)] : List (Nat × Int × Int)), M z.1 z.2.1 = z.2.2 := fun z hz => of_decide_eq_true (List.all_eq_true.mp h1 z hz)
  have e0 : M 104 0 = 0 := f (104, 0, 0) (by decide)
  have e1 : M 1 0 = 0 := f (1, 0, 0) (by decide)
  have e2 : M 1 1 = 0 := f (1, 1, 0) (by decide)
  have e9 : M 104 9 = 0 := f (104, 9, 0) (by decide)
  have e08 : M 0 8 = 0 := f (0, 8, 0) (by decide)
  have e22 : M 104 22 = 0 := f (104, 22, 0) (by decide)
  have e64 : M 6 4 = 0 := f (6, 4, 0) (by decide)
  have e23 : M 104 23 = 0 := f (104, 23, 0) (by decide)
  have e65 : M 6 5 = 0 := f (6, 5, 0) (by decide)
  have e24 : M 104 24 = 1 := f (104, 24, 1) (by decide)
  have e66 : M 6 6 = 1 := f (6, 6, 1) (by decide)
  have e25 : M 104 25 = 60 := f (104, 25, 60) (by decide)
  have e67 : M 6 7 = 60 := f (6, 7, 60) (by decide)
  have e68 : M 6 8 = -1 := f (6, 8, -1) (by decide)
  have e60 : M 6 0 = 0 := f (6, 0, 0) (by decide)
  have e10 : M 104 10 = 0 := f (104, 10, 0) (by decide)
  have e32 : M 104 32 = 0 := f (104, 32, 0) (by decide)
  have e07 : M 0 7 = 0 := f (0, 7, 0) (by decide)
  have s3 : M 74 3 = 0 := f (74, 3, 0) (by decide)
  have s6 : M 74 6 = 0 := f (74, 6, 0) (by decide)
  have s10 : M 74 10 = 0 := f (74, 10, 0) (by decide)
  have s13 : M 74 13 = 0 := f (74, 13, 0) (by decide)
  have e164 : M 104 64 = 0 := f (104, 64, 0) (by decide)
  have e09 : M 0 9 = 0 := f (0, 9, 0) (by decide)
  have e26 : M 104 26 = 0 := f (104, 26, 0) (by decide)
  have g : ∀ t : Int, 0 ≤ t → t < 8 → (M 109 t = 0 ∧ M 111 t = 10 - t ∧ M 7 t = 10 - t ∧ M 112 t = 1 ∧ M 8 t = 1 ∧ M 9 t = 0) ∧ ∀ k ∈ ([1, 3, 4, 5, 6, 9, 10, 11, 12] : List Int), M (plA t) k = 0 := fun t t0 t1 => by
    have w := List.all_eq_true.mp h2 t.toNat (List.mem_range.mpr (by omega))
    rw [Int.toNat_of_nonneg t0] at w
    simp only [Bool.and_eq_true] at w
    exact ⟨of_decide_eq_true w.1, fun k hk => of_decide_eq_true (List.all_eq_true.mp w.2 k hk)⟩
  have hx : ∀ t, 0 ≤ t → t < 8 → txR M t = xE := fun t t0 t1 => by
    funext j
    unfold txR xE
    rw [(g t t0 t1).1.1, if_neg (by omega)]
  obtain ⟨x1, x2, x3, x4, x5, x6, x7, x8⟩ := xE_ok
  have ha : areB M = 0 := by
    have : areB M = mkB 8 fun _ => false := by
      unfold areB
      refine mkB_cg fun t t0 t1 => ?_
      rw [hx t t0 (by omega), (g t t0 (by omega)).1.1, e0, x1]
      rfl
    rw [this]; rfl
  have hf : firB M = 0 := by
    have : firB M = mkB 6 fun _ => false := by
      unfold firB
      refine mkB_cg fun t t0 t1 => ?_
      rw [e0]
      exact decide_eq_false fun w => by omega
    rw [this]; rfl
  have hb : BASE M := by
    refine ⟨⟨by omega, by omega, by omega, fun t a b => by omega, by rw [hf]; exact e2⟩, fun t t0 t1 => ?_, fun t t0 t1 => ?_, ⟨by omega, by omega, by omega⟩, ⟨by omega, by omega, by omega, by omega, by omega, by omega, by omega, by omega, by omega, by omega, by omega, by omega, e68⟩, by rw [ha]; exact e60⟩
    · obtain ⟨⟨q1, _⟩, p⟩ := g t t0 t1
      unfold BTxt
      rw [hx t t0 t1, q1, e0]
      refine ⟨by omega, by omega, ⟨p 1 (by decide), fun j a b => by omega⟩, ⟨p 1 (by decide), by rw [x1]; exact p 3 (by decide), by rw [x2]; exact p 4 (by decide), by rw [x3]; exact p 5 (by decide), by rw [x4]; exact p 6 (by decide), ?_⟩⟩
      rw [x5]
      exact ⟨p 9 (by decide), by rw [x6]; exact p 10 (by decide), by rw [x7]; exact p 11 (by decide), by rw [x8]; exact p 12 (by decide), fun j hj => by omega⟩
    · obtain ⟨⟨q1, q2, q3, q4, q5, q6⟩, _⟩ := g t t0 t1
      exact ⟨by omega, by omega, by omega, by omega, by omega, by omega, q6⟩
  refine ⟨⟨hb, Or.inl e10, by omega, Or.inl e07, fun _ => ⟨Or.inl s3, Or.inl s6, Or.inl s10, Or.inl s13⟩, fun s s0 s1 => ?_, by omega, by omega, by omega⟩, Or.inl e26⟩
  have w := List.all_eq_true.mp h3 s.toNat (List.mem_range.mpr (by omega))
  rw [Int.toNat_of_nonneg s0] at w
  have w := of_decide_eq_true w
  exact ⟨Or.inr w.1, by omega, fun q => by omega⟩
theorem all_ops (sx : Int → Int) (L : Nat) : Ops sx L (INVM SRz) := by
  have hs := SR1_ok
  refine ⟨?_, ?_, ?_, ?_, ?_, ?_, ?_, ?_, ?_, ?_, ?_, ?_, ?_, ?_, ?_, ?_, ?_, ?_, ?_, ?_, ?_, ?_, ?_, ?_, ?_, ?_, ?_, ?_, ?_, ?_, ?_⟩
  · exact fun a b _ _ => op_1 hs a b
  · exact fun a b c ha _ _ => op_2 hs a b c ha
  · exact fun a b _ _ => op_3 hs a b
  · exact fun a _ => op_4 hs a
  · exact fun a _ => op_5 hs a
  · exact fun a b _ _ => op_6 hs a b
  · exact fun a b c _ _ _ => op_7 hs a b c
  · exact fun a b _ hb => op_8 hs a b hb
  · exact fun a b _ _ => op_9r hs a b
  · exact fun a b _ _ => op_9 hs a b
  · exact fun a b _ _ => op_10 hs a b
  · exact fun a b _ _ => op_11 hs a b
  · exact fun a b _ _ => op_12 hs a b
  · exact op_13 hs
  · exact fun a _ => op_14 hs a
  · exact fun a _ => op_16 hs a
  · exact fun a _ => op_17 hs a
  · exact fun a _ => op_best a
  · exact fun a b _ _ => op_19 hs a b
  · exact fun a _ => op_shed a
  · exact fun a b c _ _ _ => op_whatever a b c
  · exact fun a _ => op_fits a
  · exact fun a _ => op_mended a
  · exact fun a b c _ _ _ => op_24 hs a b c
  · exact fun a _ => op_25 hs a
  · exact fun a b c d _ _ _ _ => op_26 hs a b c d
  · exact fun a b c _ _ _ => op_27 hs a b c
  · exact fun a b c d e _ hb _ hd he => op_28 hs a b c d e hb hd he
  · exact fun a _ => op_29 hs a
  · exact fun a _ => op_30 hs a
  · exact op_31 hs
theorem law_run : LawRun := law_of (INV := fun _ _ => INVM SRz) (fun _ _ => ini_inv ini_ok) fun sx L _ _ => all_ops sx L
end
