/-! copy, write -/
section
variable {sx : Int → Int} {L : Nat} {M : Mem} {Q : Option AV → Mem → Prop} {S1 : Mem → Prop}
theorem lAdd_ok {a b : Int} (ha : inR a) (hb : inR b) : lAdd a b = a + b := by
  have h1 := ha.1
  have h2 := ha.2
  have h3 := hb.1
  have h4 := hb.2
  unfold lAdd
  rw [← Int64.ofInt_add]
  exact n64 ⟨by omega, by omega⟩
theorem cmp_lt {x y : Int} : (0 < (if x < y then (-1 : Int) else if x = y then 0 else 1)) ↔ y < x := by
  by_cases h : x < y
  · rw [if_pos h]; omega
  · by_cases h2 : x = y
    · rw [if_neg h, if_pos h2]; omega
    · rw [if_neg h, if_neg h2]; omega
theorem cmp_le {x y : Int} : ((if x < y then (-1 : Int) else if x = y then 0 else 1) ≤ 0) ↔ x ≤ y := by
  by_cases h : x < y
  · rw [if_pos h]; omega
  · by_cases h2 : x = y
    · rw [if_neg h, if_pos h2]; omega
    · rw [if_neg h, if_neg h2]; omega
def fcF (M : Mem) (a b c d e : Int) : Int := if ¬ (¬ M 139 a = 0 ∧ ¬ M 139 c = 0) then 1 else if ¬ M 140 a = M 140 c then 4 else if ¬ (0 ≤ b ∧ 0 ≤ d ∧ 0 ≤ e ∧ b + e ≤ M 141 a ∧ d + e ≤ M 141 c) then 2 else 0
theorem fc1 {a b c d e : Int} (h : ¬ (¬ M 139 a = 0 ∧ ¬ M 139 c = 0)) : fcF M a b c d e = 1 := by unfold fcF; rw [if_pos h]
theorem fc4 {a b c d e : Int} (h : ¬ M 139 a = 0 ∧ ¬ M 139 c = 0) (h2 : ¬ M 140 a = M 140 c) : fcF M a b c d e = 4 := by unfold fcF; rw [if_neg (by omega), if_pos h2]
theorem fc2 {a b c d e : Int} (h : ¬ M 139 a = 0 ∧ ¬ M 139 c = 0) (h2 : M 140 a = M 140 c) (h3 : ¬ (0 ≤ b ∧ 0 ≤ d ∧ 0 ≤ e ∧ b + e ≤ M 141 a ∧ d + e ≤ M 141 c)) : fcF M a b c d e = 2 := by unfold fcF; rw [if_neg (by omega), if_neg (by omega), if_pos h3]
theorem fc0 {a b c d e : Int} (h : ¬ M 139 a = 0 ∧ ¬ M 139 c = 0) (h2 : M 140 a = M 140 c) (h3 : 0 ≤ b ∧ 0 ≤ d ∧ 0 ≤ e ∧ b + e ≤ M 141 a ∧ d + e ≤ M 141 c) : fcF M a b c d e = 0 := by unfold fcF; rw [if_neg (by omega), if_neg (by omega), if_neg (by omega)]
theorem fcF_cg {M' : Mem} {a b c d e : Int} (f : ∀ c k, 139 ≤ c ∧ c ≤ 141 → M' c k = M c k) : fcF M' a b c d e = fcF M a b c d e := by
  unfold fcF
  rw [f 139 a (by omega), f 140 a (by omega), f 141 a (by omega), f 139 c (by omega), f 140 c (by omega), f 141 c (by omega)]
theorem fcR (a b c d e : Int) : fcF M a b c d e = 0 ∧ ¬ M 139 a = 0 ∧ ¬ M 139 c = 0 ∧ M 140 a = M 140 c ∧ 0 ≤ b ∧ 0 ≤ d ∧ 0 ≤ e ∧ b + e ≤ M 141 a ∧ d + e ≤ M 141 c ∨ 1 ≤ fcF M a b c d e ∧ fcF M a b c d e ≤ 4 := by
  by_cases h : ¬ M 139 a = 0 ∧ ¬ M 139 c = 0
  · by_cases h2 : M 140 a = M 140 c
    · by_cases h3 : 0 ≤ b ∧ 0 ≤ d ∧ 0 ≤ e ∧ b + e ≤ M 141 a ∧ d + e ≤ M 141 c
      · exact Or.inl ⟨fc0 h h2 h3, h.1, h.2, h2, h3⟩
      · exact Or.inr (by rw [fc2 h h2 h3]; omega)
    · exact Or.inr (by rw [fc4 h h2]; omega)
  · exact Or.inr (by rw [fc1 h]; omega)
theorem s_86 {a p n : Int} (g : 0 ≤ a ∧ a < 4) (hp : inR p) (z : 0 ≤ M (shA a) 2 ∧ M (shA a) 2 ≤ 60) (hQ : ∀ r, (0 ≤ p ∧ 0 ≤ n ∧ p + n ≤ M (shA a) 2 ∧ r = 1 ∨ ¬ (0 ≤ p ∧ 0 ≤ n ∧ p + n ≤ M (shA a) 2) ∧ r = 0) → Q (some (vI r)) M) : Mq sx L K0 R0 86 [vR (shA a + 2), vI p, vI n] M Q := by
  have hk := isSh_A g.1 g.2
  have := hp.1
  have := hp.2
  exact m_86 (b_86_0 hk ⟨fun q => b_86_1 hk (b_86_2 hk ⟨Or.inl rfl, hQ 0 (by omega)⟩), fun q => ⟨fun q2 => b_86_1 hk (b_86_2 hk ⟨Or.inl rfl, hQ 0 (by omega)⟩), fun q2 => ⟨⟨by omega, by omega⟩, fun q3 => b_86_1 hk (b_86_2 hk ⟨Or.inl rfl, hQ 0 (by omega)⟩), fun q3 => b_86_2 hk ⟨Or.inr rfl, hQ 1 (by omega)⟩⟩⟩⟩)
theorem kSh (a : Int) (g : 0 ≤ a ∧ a < 4) : K0[shA a + 1]? = some (10, 60) := by
  have : shA a + 1 = 44 ∨ shA a + 1 = 46 ∨ shA a + 1 = 48 ∨ shA a + 1 = 50 := by unfold shA; omega
  rcases this with e | e | e | e <;> rw [e] <;> decide +kernel
theorem s_121 {a b c d e : Int} (hS : SHT M) (hb : inR b) (hd : inR d) (g : 0 ≤ a ∧ a < 4) (gc : 0 ≤ c ∧ c < 4) (hf : ∀ x, ¬ fcF M a b c d e = 0 → x = fcF M a b c d e → Mq sx L K0 R0 132 [vR 2, vI x] M (fun rv M1 => ∃ r, rv = some (vI r) ∧ Q (some (vI r)) M1)) (hok : fcF M a b c d e = 0 → Q (some (vI 1)) (mcpy M (shA a + 1) b (shA c + 1) d e)) : Mq sx L K0 R0 121 [vR 2, vI a, vI b, vI c, vI d, vI e] M Q := by
  have ha := isSh_A g.1 g.2
  have hc := isSh_A gc.1 gc.2
  have sa : SH1 M a := hS a g.1 g.2
  have sc : SH1 M c := hS c gc.1 gc.2
  have a2 := sa.2.1
  have c2 := sc.2.1
  have a1 := sa.1
  have c1 := sc.1
  refine m_121 (b_121_0 (s_126 fun r hr => ⟨r, rfl, fun q => absurd q (by omega), fun _ => s_126 fun r2 hr2 => ⟨r2, rfl, fun _ => b_121_2 g gc ⟨fun q => b_121_3 ha hc (hf 1 ?_ ?_), fun q => ⟨fun q2 => b_121_4 ha hc ?_, fun q2 => b_121_3 ha hc (hf 1 ?_ ?_)⟩⟩, fun q => absurd (by omega) q⟩⟩))
  · rw [fc1 (by omega)]; omega
  · rw [fc1 (by omega)]
  · have oa := sa.on (by omega)
    have oc := sc.on (by omega)
    have on : ¬ M 139 a = 0 ∧ ¬ M 139 c = 0 := by omega
    refine ⟨fun q3 => b_121_5 ha hc (s_86 g hb (by omega) fun r3 hr3 => ⟨r3, rfl, fun q4 => b_121_6 ha hc (hf 2 ?_ ?_), fun q4 => s_86 gc hd (by omega) fun r5 hr5 => ⟨r5, rfl, fun q5 => b_121_7 ha hc ⟨⟨60, 60, kSh a g, kSh c gc, by omega, by omega, by omega, by omega, by omega⟩, hok (fc0 on (by omega) (by omega))⟩, fun q5 => b_121_6 ha hc (hf 2 ?_ ?_)⟩⟩), fun q3 => hf 4 ?_ ?_⟩
    · rw [fc2 on (by omega) (by omega)]; omega
    · rw [fc2 on (by omega) (by omega)]
    · rw [fc2 on (by omega) (by omega)]; omega
    · rw [fc2 on (by omega) (by omega)]
    · rw [fc4 on (by omega)]; omega
    · rw [fc4 on (by omega)]
  · rw [fc1 (by omega)]; omega
  · rw [fc1 (by omega)]
theorem s_222 {a b c d e : Int} (za : ¬ M 139 a = 0 → 0 ≤ M 141 a ∧ M 141 a ≤ 60) (zc : ¬ M 139 c = 0 → 0 ≤ M 141 c ∧ M 141 c ≤ 60) (hb : inR b) (hd : inR d) (he : inR e) (g : 0 ≤ a ∧ a < 4) (gc : 0 ≤ c ∧ c < 4) (hf : ∀ x, ¬ fcF M a b c d e = 0 → x = fcF M a b c d e → Mq sx L K0 R0 214 [vR 106, vI x] M (fun rv M1 => ∃ r, rv = some (vI r) ∧ Q (some (vI r)) M1))
    (hok : ∀ M1, fcF M a b c d e = 0 → (∀ i, 0 ≤ i → i < e → M1 142 (60 * c + d + i) = M 142 (60 * a + b + i)) → (∀ x k, ¬ x = 143 → ¬ (x = 142 ∧ 60 * c + d ≤ k ∧ k < 60 * c + d + e) → M1 x k = M x k) → Q (some (vI 1)) M1) : Mq sx L K0 R0 222 [vR 106, vI a, vI b, vI c, vI d, vI e] M Q := by
  refine m_222 (b_222_0 (s_215 fun r hr => ⟨r, rfl, fun q => absurd q (by omega), fun _ => s_215 fun r2 hr2 => ⟨r2, rfl, fun _ => b_222_2 ⟨g, fun q => b_222_3 (hf 1 ?_ ?_), fun q => ⟨gc, fun q2 => b_222_4 ⟨g, gc, ?_⟩, fun q2 => b_222_3 (hf 1 ?_ ?_)⟩⟩, fun q => absurd (by omega) q⟩⟩))
  · rw [fc1 (by omega)]; omega
  · rw [fc1 (by omega)]
  · have oa := za (by omega)
    have oc := zc (by omega)
    have on : ¬ M 139 a = 0 ∧ ¬ M 139 c = 0 := by omega
    refine ⟨fun q3 => b_222_5 ?_, fun q3 => hf 4 ?_ ?_⟩
    · have two : ¬ (0 ≤ b ∧ 0 ≤ d ∧ 0 ≤ e ∧ b + e ≤ M 141 a ∧ d + e ≤ M 141 c) → Rn sx L K0 R0 222 6 [vR 106, vI a, vI b, vI c, vI d, vI e, vU] [] M Q := fun w => b_222_6 (hf 2 (by rw [fc2 on q3 w]; omega) (by rw [fc2 on q3 w]))
      rw [lAdd_ok hb he, lAdd_ok hd he, cmp_lt, cmp_le]
      refine ⟨fun w => two (by omega), fun w1 => ⟨fun w => two (by omega), fun w2 => ⟨fun w => two (by omega), fun w3 => ⟨g, fun w => two (by omega), fun w4 => ⟨gc, fun w5 => b_222_7 ?_, fun w => two (by omega)⟩⟩⟩⟩⟩
      refine lpM (N := e) (I := fun k M2 => (∀ i, 0 ≤ i → i < k → M2 143 i = M 142 (60 * a + b + i)) ∧ ∀ x k', ¬ x = 143 → M2 x k' = M x k') (G := fun k M2 => Rn sx L K0 R0 222 8 [vR 106, vI a, vI b, vI c, vI d, vI e, vI k] [] M2 Q) (fun k M2 k0 k1 hI ih => ?_) (fun M2 hI => b_222_8 ⟨fun _ => b_222_9 ?_, fun q => absurd (by omega) q⟩) 0 M (by omega) (by omega) ⟨fun i a b => by omega, fun x k' _ => rfl⟩
      · refine b_222_8 ⟨fun q => absurd q (by omega), fun _ => ⟨⟨by omega, by omega⟩, ⟨by omega, by omega⟩, ⟨by omega, by omega⟩, ⟨by omega, by omega⟩, ⟨by omega, by omega⟩, ⟨by omega, by omega⟩, ih _ ⟨fun i x y => ?_, fun x k' p => by rw [ms_c p]; exact hI.2 x k' p⟩⟩⟩
        by_cases ei : i = k
        · rw [ei, ms_eq, hI.2 142 _ (by omega)]
        · rw [ms_k ei]; exact hI.1 i x (by omega)
      · obtain ⟨j1, j2⟩ := hI
        refine lpM (N := e) (I := fun k M3 => (∀ i, 0 ≤ i → i < k → M3 142 (60 * c + d + i) = M 142 (60 * a + b + i)) ∧ (∀ i, M3 143 i = M2 143 i) ∧ ∀ x k', ¬ x = 143 → ¬ (x = 142 ∧ 60 * c + d ≤ k' ∧ k' < 60 * c + d + e) → M3 x k' = M x k') (G := fun k M3 => Rn sx L K0 R0 222 10 [vR 106, vI a, vI b, vI c, vI d, vI e, vI k] [] M3 Q) (fun k M3 k0 k1 hI ih => ?_) (fun M3 hI => b_222_10 ⟨fun _ => b_222_11 (hok M3 (fc0 on q3 (by omega)) hI.1 hI.2.2), fun q => absurd (by omega) q⟩) 0 M2 (by omega) (by omega) ⟨fun i a b => by omega, fun i => rfl, fun x k' p _ => j2 x k' p⟩
        refine b_222_10 ⟨fun q => absurd q (by omega), fun _ => ⟨⟨by omega, by omega⟩, ⟨by omega, by omega⟩, ⟨by omega, by omega⟩, ⟨by omega, by omega⟩, ⟨by omega, by omega⟩, ⟨by omega, by omega⟩, ih _ ⟨fun i x y => ?_, fun i => by rw [ms_c (by omega)]; exact hI.2.1 i, fun x k' p q => by rw [ms_ne (by omega)]; exact hI.2.2 x k' p q⟩⟩⟩
        by_cases ei : i = k
        · rw [ei, ms_eq, hI.2.1, j1 k k0 k1]
        · rw [ms_k (by omega)]; exact hI.1 i x (by omega)
    · rw [fc4 on (by omega)]; omega
    · rw [fc4 on (by omega)]
  · rw [fc1 (by omega)]; omega
  · rw [fc1 (by omega)]
theorem op_28 (hs : SROK (S1, SHT)) (a b c d e : Int) (hb : inR b) (hd : inR d) (he : inR e) : OpOk sx L (INVM (S1, SHT)) 121 222 [vI a, vI b, vI c, vI d, vI e] := by
  intro M h
  by_cases g : (0 ≤ a ∧ a < 4) ∧ 0 ≤ c ∧ c < 4
  · have hS : SHT M := h.1.2.2.2.2.2.1
    have sa : SH1 M a := hS a g.1.1 g.1.2
    have sc : SH1 M c := hS c g.2.1 g.2.2
    have ra := sh_rg g.1.1 g.1.2
    have rc := sh_rg g.2.1 g.2.2
    have fr := fcR (M := M) a b c d e
    have za : ¬ M 139 a = 0 → 0 ≤ M 141 a ∧ M 141 a ≤ 60 := fun q => by have := sa.on q; omega
    have zc : ¬ M 139 c = 0 → 0 ≤ M 141 c ∧ M 141 c ≤ 60 := fun q => by have := sc.on q; omega
    refine s_121 hS hb hd g.1 g.2 (fun x x0 ex => find_ok hs h (by omega) (by omega) fun M1 Q f hQ => ?_) (fun z => ⟨_, rfl, ?_⟩)
    · have cg := fcF_cg (M' := M1) (M := M) (a := a) (b := b) (c := c) (d := d) (e := e) (fun c k q => f c k (by omega))
      refine s_222 (by rw [f 139 a (by omega), f 141 a (by omega)]; exact za) (by rw [f 139 c (by omega), f 141 c (by omega)]; exact zc) hb hd he g.1 g.2 (fun x' _ ex' => ?_) (fun M2 q _ _ => absurd q (by rw [cg]; exact x0))
      rw [ex', cg, ← ex]
      exact s_214 (by omega) (by omega) ⟨_, rfl, hQ⟩
    · obtain ⟨k1, k2, k3, k4, k5, k6, k7, k8⟩ : ¬ M 139 a = 0 ∧ ¬ M 139 c = 0 ∧ M 140 a = M 140 c ∧ 0 ≤ b ∧ 0 ≤ d ∧ 0 ≤ e ∧ b + e ≤ M 141 a ∧ d + e ≤ M 141 c := by omega
      have f : ∀ x k, ¬ x = shA c + 1 → mcpy M (shA a + 1) b (shA c + 1) d e x k = M x k := fun x k q => by
        unfold mcpy
        rw [if_neg (by omega)]
      have f2 : ∀ k, mcpy M (shA a + 1) b (shA c + 1) d e (shA c + 1) k = if d ≤ k ∧ k < d + e then M (shA a + 1) (b + (k - d)) else M (shA c + 1) k := fun k => by
        unfold mcpy
        by_cases w : d ≤ k ∧ k < d + e
        · rw [if_pos ⟨rfl, w.1, w.2⟩, if_pos w]
        · rw [if_neg (by omega), if_neg w]
      have cg := fcF_cg (M' := mcpy M (shA a + 1) b (shA c + 1) d e) (M := M) (a := a) (b := b) (c := c) (d := d) (e := e) (fun c k q => f c k (by omega))
      refine s_222 (by rw [f 139 a (by omega), f 141 a (by omega)]; exact za) (by rw [f 139 c (by omega), f 141 c (by omega)]; exact zc) hb hd he g.1 g.2 (fun x' x0 ex' => absurd z (by rw [cg] at x0; exact x0)) (fun M2 _ p1 p2 => ⟨rfl, ?_⟩)
      have F : ∀ x k, ¬ x = 143 → ¬ x = shA c + 1 → ¬ (x = 142 ∧ 60 * c ≤ k ∧ k < 60 * c + 60) → M2 x k = M x k := fun x k q1 q2 q3 => by
        have oc := sc.on k2
        rw [p2 x k q1 (by omega), f x k q2]
      obtain ⟨a0, a1, a2, a3, a4, a5, a6, a7⟩ := sa.on k1
      obtain ⟨c0, c1, c2, c3, c4, c5, c6, c7⟩ := sc.on k2
      refine shf_inv hs h (fun x k p q _ _ => F x k (by omega) (by omega) (by omega)) (SHT.one (M := M) hS g.2 (fun x k p q x y _ => F _ _ (by omega) (by omega) (by omega)) ?_) (FND.fr h.1.2.2.2.2.2.2 (F _ _ (by omega) (by omega) (by omega)) (F _ _ (by omega) (by omega) (by omega)))
      unfold SH1
      rw [F (shA c) 0 (by omega) (by omega) (by omega), F (shA c) 1 (by omega) (by omega) (by omega), F (shA c) 2 (by omega) (by omega) (by omega), F 139 _ (by omega) (by omega) (by omega), F 140 _ (by omega) (by omega) (by omega), F 141 _ (by omega) (by omega) (by omega)]
      refine ⟨Or.inl c0, sc.2.1, fun _ => ⟨c1, c2, c3, c4, c5, c6, fun j j0 j1 => ?_⟩⟩
      rw [p2 (shA c + 1) j (by omega) (by omega), f2]
      by_cases w : d ≤ j ∧ j < d + e
      · have := p1 (j - d) (by omega) (by omega)
        rw [show 60 * c + d + (j - d) = 60 * c + j by omega] at this
        rw [this, if_pos w, f _ _ (by omega), show 60 * a + b + (j - d) = 60 * a + (b + (j - d)) by omega]
        exact a7 _ (by omega) (by omega)
      · rw [if_neg w, p2 142 _ (by omega) (by omega), f _ _ (by omega)]
        exact c7 j j0 j1
  · refine ref_ok h (fun Q hQ => m_121 (b_121_0 (s_126 fun r hr => ⟨r, rfl, fun q => b_121_1 hQ, fun _ => s_126 fun r2 hr2 => ⟨r2, rfl, fun q => absurd (by omega) g, fun _ => b_121_1 hQ⟩⟩))) (fun Q hQ => m_222 (b_222_0 (s_215 fun r hr => ⟨r, rfl, fun q => b_222_1 hQ, fun _ => s_215 fun r2 hr2 => ⟨r2, rfl, fun q => absurd (by omega) g, fun _ => b_222_1 hQ⟩⟩)))
end
