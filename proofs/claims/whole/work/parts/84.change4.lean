/-! type, wipe, thing -/
section
variable {sx : Int → Int} {L : Nat} {M M' : Mem} {Q : Option AV → Mem → Prop} {SR : (Mem → Prop) × (Mem → Prop)}
theorem BTxt.mk {x : Int → Int} {n t : Int} (n0 : 0 ≤ n) (n1 : n ≤ 60) (b3 : TC x n M (plA t)) (b4 : PlT x n (M' 104 0) M (plA t)) (f : ∀ c k, (plA t ≤ c ∧ c ≤ plA t + 3) → M' c k = M c k) (tx : txR M' t = x) (e : M' 109 t = n) : BTxt M' t := by
  have p := fun k => f (plA t) k (by omega)
  unfold BTxt
  rw [tx, e]
  obtain ⟨q1, q2, q3, q4, q5, q6⟩ := b4
  obtain ⟨s1, s2, s3, s4, s5⟩ := q6
  refine ⟨n0, n1, ⟨by rw [p]; exact b3.1, fun j j0 j1 => by rw [f (plA t + 1) _ (by omega)]; exact b3.2 j j0 j1⟩, by rw [p]; exact q1, by rw [p]; exact q2, by rw [p]; exact q3, by rw [p]; exact q4, by rw [p]; exact q5, by rw [p]; exact s1, by rw [p]; exact s2, by rw [p]; exact s3, by rw [p]; exact s4, fun j hj => ?_⟩
  rw [f (plA t + 2) _ (by omega), f (plA t + 3) _ (by omega)]
  exact s5 j hj
theorem pl_ne {a b : Int} (a0 : 0 ≤ a) (b0 : 0 ≤ b) (h : ¬ a = b) : plA a + 3 < plA b ∨ plA b + 3 < plA a := by unfold plA; omega
theorem txt_ok {a n : Int} {x : Int → Int} {M1 M2 : Mem} (hs : SROK SR) (h : INVM SR M) (a0 : 0 ≤ a) (a1 : a < 8) (n0 : 0 ≤ n) (n1 : n ≤ 60) (tc : TC x n M1 (plA a)) (pt : PlT x n (M 104 0) M1 (plA a)) (f1 : ∀ c k, ¬ (plA a ≤ c ∧ c ≤ plA a + 3) → M1 c k = M c k)
    (f2 : ∀ c k, ¬ (c = 6 ∧ k = 0) → ¬ (c = 0 ∧ k = 7) → ¬ c = 74 → ¬ (c = 109 ∧ k = a) → ¬ (c = 110 ∧ 60 * a ≤ k ∧ k < 60 * a + 60) → ¬ (c = 104 ∧ (k = 10 ∨ k = 26)) → M2 c k = M1 c k) (tx : txR M2 a = x) (e109 : M2 109 a = n) (h60 : M2 6 0 = clsB M1) (h7 : M2 0 7 = 0) (z3 : M2 74 3 = 0) (z6 : M2 74 6 = 0) (z10 : M2 74 10 = 0) (z13 : M2 74 13 = 0) (h10 : M2 104 10 = 0) (h26 : M2 104 26 = 0) : INVM SR M2 := by
  obtain ⟨b1, b2, b3, b4, b5, b6⟩ := h.1.1
  have pa := pl_rg a0 a1
  have F : ∀ c k, ¬ (plA a ≤ c ∧ c ≤ plA a + 3) → ¬ (c = 6 ∧ k = 0) → ¬ (c = 0 ∧ k = 7) → ¬ c = 74 → ¬ (c = 109 ∧ k = a) → ¬ (c = 110 ∧ 60 * a ≤ k ∧ k < 60 * a + 60) → ¬ (c = 104 ∧ (k = 10 ∨ k = 26)) → M2 c k = M c k := fun c k p q r s t u v => by rw [f2 c k q r s t u v, f1 c k p]
  have m0 : M2 104 0 = M 104 0 := F _ _ (by omega) (by omega) (by omega) (by omega) (by omega) (by omega) (by omega)
  have bt : ∀ t, 0 ≤ t → t < 8 → BTxt M2 t := by
    intro t t0 t1
    by_cases e : t = a
    · subst e
      exact BTxt.mk n0 n1 tc (by rw [m0]; exact pt) (fun c k q => f2 c k (by omega) (by omega) (by omega) (by omega) (by omega) (by omega)) tx e109
    · have pt := pl_rg t0 t1
      have pn := pl_ne t0 a0 e
      exact ((b2 t t0 t1).fr fun c k q => F c k (by omega) (by omega) (by omega) (by omega) (by omega) (by omega) (by omega)).1
  refine mut_ok hs h (fun c k p q r s => F c k (by unfold baseC at p; omega) (by unfold baseC at p; omega) q r (by unfold baseC at p; omega) (by unfold baseC at p; omega) s) ⟨b1.fr fun c k q => F c k (by omega) (by omega) (by omega) (by omega) (by omega) (by omega) (by omega), bt, fun t t0 t1 => (b3 t t0 t1).fr fun c q => F c t (by omega) (by omega) (by omega) (by omega) (by omega) (by omega) (by omega), ?_, b5.fr fun c k q => F c k (by omega) (by omega) (by omega) (by omega) (by omega) (by omega) (by omega), ?_⟩ h7 z3 z6 z10 z13 h26 (Or.inl h10)
  · rw [F 104 9 (by omega) (by omega) (by omega) (by omega) (by omega) (by omega) (by omega), F 0 8 (by omega) (by omega) (by omega) (by omega) (by omega) (by omega) (by omega)]
    exact b4
  · rw [h60]
    refine cls_are2 (fun t t0 t1 => ?_) ?_
    · have pt := pl_rg t0 t1
      rw [← f2 (plA t) 3 (by omega) (by omega) (by omega) (by omega) (by omega) (by omega)]
      exact (bt t t0 t1).2.2.2.2.1
    · rw [F 104 9 (by omega) (by omega) (by omega) (by omega) (by omega) (by omega) (by omega), f1 _ _ (by omega)]
      exact b4.2.2
theorem op_4 (hs : SROK SR) (a : Int) : OpOk sx L (INVM SR) 97 144 [vI a] := by
  intro M h
  have hb := h.1.1
  by_cases g : 0 ≤ a ∧ a < 8
  · have pa := pl_rg g.1 g.2
    obtain ⟨a1, a2, a3, a4, a5⟩ := hb.1
    obtain ⟨n0, n1, tc, pt⟩ := hb.2.1 a g.1 g.2
    have hp : isPl (plA a) := isPl_A g.1 g.2
    have e10 : mset M (plA a) 1 0 1 0 = M 104 0 := by rw [ms_c (by omega)]; exact a3
    refine m_97 (b_97_0 (s_125 fun r hr => ⟨r, rfl, fun _ => b_97_1 g ?_, fun q => absurd (by omega) q⟩))
    rw [e10]
    refine s_15 (x := fun _ => 0) (n := 0) hp ⟨ms_eq, fun j j0 j1 => by omega⟩ (by omega) (by omega) a1 a2 fun M1 pl tc1 fp => ⟨rfl, ?_⟩
    have f1 : ∀ c k, ¬ (plA a ≤ c ∧ c ≤ plA a + 3) → M1 c k = M c k := fun c k q => by rw [fp c k (by omega) (by omega) (by omega), ms_c (by omega)]
    refine s_134 (by rw [f1 _ _ (by omega)]; exact hb.dB) fun M2 h60 h7 z3 z6 z10 z13 f2 => ⟨rfl, _, rfl, ?_⟩
    have o : M2 109 a = M 109 a := by rw [f2 _ _ (by omega) (by omega) (by omega), f1 _ _ (by omega)]
    refine m_144 (b_144_0 (s_142 fun r hr => ⟨r, rfl, fun _ => b_144_1 ⟨g, g, m_141 (b_141_0 ⟨rfl, ?_, ?_⟩)⟩, fun q => absurd (by omega) q⟩))
    · rw [o, tc.1]
    · have F3 : ∀ c k, ¬ (c = 109 ∧ k = a) → ¬ (c = 104 ∧ (k = 10 ∨ k = 26)) → mset (mset (mset M2 109 a 0) 104 10 0) 104 26 0 c k = M2 c k := fun c k p q => by rw [ms_ne (by omega), ms_ne (by omega), ms_ne p]
      have n109 : mset (mset (mset M2 109 a 0) 104 10 0) 104 26 0 109 a = 0 := by rw [ms_c (by omega), ms_c (by omega), ms_eq]
      refine txt_ok (x := fun _ => 0) (n := 0) hs h g.1 g.2 (by omega) (by omega) tc1 pl f1 (fun c k p q r s t u => by rw [F3 c k s u, f2 c k p q r]) ?_ n109 ?_ ?_ ?_ ?_ ?_ ?_ ?_ ms_eq
      · funext j
        unfold txR
        rw [n109, if_neg (by omega)]
      · rw [F3 _ _ (by omega) (by omega)]; exact h60
      · rw [F3 _ _ (by omega) (by omega)]; exact h7
      · rw [F3 _ _ (by omega) (by omega)]; exact z3
      · rw [F3 _ _ (by omega) (by omega)]; exact z6
      · rw [F3 _ _ (by omega) (by omega)]; exact z10
      · rw [F3 _ _ (by omega) (by omega)]; exact z13
      · rw [ms_k (by omega), ms_eq]
  · refine ref_ok h (fun Q hQ => m_97 (b_97_0 (s_125 fun r hr => ⟨r, rfl, fun q => absurd (by omega) g, fun _ => hQ⟩))) (fun Q hQ => m_144 (b_144_0 (s_142 fun r hr => ⟨r, rfl, fun q => absurd (by omega) g, fun _ => hQ⟩)))
theorem op_3 (hs : SROK SR) (a b : Int) : OpOk sx L (INVM SR) 96 143 [vI a, vI b] := by
  intro M h
  have hb := h.1.1
  by_cases g : (0 ≤ a ∧ a < 8) ∧ 0 ≤ b ∧ b ≤ 255
  · have pa := pl_rg g.1.1 g.1.2
    obtain ⟨a1, a2, a3, a4, a5⟩ := hb.1
    obtain ⟨n0, n1, tc, pt⟩ := hb.2.1 a g.1.1 g.1.2
    have hp : isPl (plA a) := isPl_A g.1.1 g.1.2
    by_cases g2 : M 109 a < 60
    · refine m_96 (b_96_0 (s_125 fun r hr => ⟨r, rfl, fun q => absurd q (by omega), fun _ => ⟨fun q => absurd q (by omega), fun _ => ⟨fun _ => b_96_2 g.1 ⟨fun _ => b_96_3 hp ?_, fun q => absurd (by rw [tc.1]; exact g2) q⟩, fun q => absurd g.2.2 q⟩⟩⟩))
      generalize hn : M 109 a = n at *
      have c1 : M (plA a) 1 = n := tc.1
      have e1 : mset M (plA a + 1) n b (plA a) 1 = n := by rw [ms_c (by omega)]; exact c1
      refine m_14 (b_14_0 hp ⟨fun q => absurd q (by omega), fun _ => ⟨fun q => absurd q (by omega), fun _ => ⟨⟨by omega, by omega⟩, ?_⟩⟩⟩)
      rw [c1, e1]
      refine ⟨⟨by omega, by omega⟩, b_14_1 hp ⟨rfl, ?_⟩⟩
      have f0 : ∀ c k, ¬ (plA a ≤ c ∧ c ≤ plA a + 3) → mset (mset M (plA a + 1) n b) (plA a) 1 (n + 1) c k = M c k := fun c k q => by rw [ms_c (by omega), ms_c (by omega)]
      rw [f0 1 0 (by omega), a3]
      refine s_15 (x := fun j => if 0 ≤ j ∧ j < n + 1 then (if j = n then b else M 110 (60 * a + j)) else 0) (n := n + 1) hp ⟨ms_eq, fun j j0 j1 => ?_⟩ (by omega) (by omega) a1 a2 fun M1 pl tc1 fp => ⟨rfl, ?_⟩
      · dsimp only
        rw [if_pos ⟨j0, j1⟩]
        by_cases e : j = n
        · rw [if_pos e, ms_c (by omega), e, ms_eq]
        · rw [if_neg e, ms_c (by omega), ms_k e, tc.2 j j0 (by omega)]
          unfold txR
          rw [hn, if_pos ⟨j0, by omega⟩]
      have f1 : ∀ c k, ¬ (plA a ≤ c ∧ c ≤ plA a + 3) → M1 c k = M c k := fun c k q => by rw [fp c k (by omega) (by omega) (by omega), f0 c k q]
      refine s_134 (by rw [f1 _ _ (by omega)]; exact hb.dB) fun M2 h60 h7 z3 z6 z10 z13 f2 => ⟨rfl, _, rfl, ?_⟩
      have o : M2 109 a = n := by rw [f2 _ _ (by omega) (by omega) (by omega), f1 _ _ (by omega)]; exact hn
      have e110 : ∀ k, M2 110 k = M 110 k := fun k => by rw [f2 _ _ (by omega) (by omega) (by omega), f1 _ _ (by omega)]
      have o1 : mset M2 110 (60 * a + n) b 109 a = n := by rw [ms_c (by omega)]; exact o
      refine m_143 (b_143_0 (s_142 fun r hr => ⟨r, rfl, fun q => absurd q (by omega), fun _ => s_137 fun r2 hr2 => ⟨r2, rfl, fun _ => b_143_2 ⟨g.1, fun _ => b_143_3 ?_, fun q => absurd (by omega) q⟩, fun q => absurd (by omega) q⟩⟩))
      rw [o, o1]
      refine ⟨⟨by omega, by omega⟩, g.1, ⟨by omega, by omega⟩, ⟨by omega, by omega⟩, g.1, ⟨by omega, by omega⟩, g.1, m_141 (b_141_0 ⟨rfl, g.1, ?_, ?_⟩)⟩
      · rw [ms_c (by omega), ms_c (by omega), ms_eq, f2 _ _ (by omega) (by omega) (by omega), tc1.1]
      · have F3 : ∀ c k, ¬ (c = 109 ∧ k = a) → ¬ (c = 110 ∧ k = 60 * a + n) → ¬ (c = 104 ∧ (k = 10 ∨ k = 26)) → mset (mset (mset (mset M2 110 (60 * a + n) b) 109 a (n + 1)) 104 10 0) 104 26 0 c k = M2 c k := fun c k p p2 q => by rw [ms_ne (by omega), ms_ne (by omega), ms_ne p, ms_ne p2]
        have n109 : mset (mset (mset (mset M2 110 (60 * a + n) b) 109 a (n + 1)) 104 10 0) 104 26 0 109 a = n + 1 := by rw [ms_c (by omega), ms_c (by omega), ms_eq]
        refine txt_ok (n := n + 1) hs h g.1.1 g.1.2 (by omega) (by omega) tc1 pl f1 (fun c k p q r s t u => by rw [F3 c k s (by omega) u, f2 c k p q r]) ?_ n109 ?_ ?_ ?_ ?_ ?_ ?_ ?_ ms_eq
        · funext j
          unfold txR
          rw [n109]
          by_cases w : 0 ≤ j ∧ j < n + 1
          · rw [if_pos w, if_pos w]
            by_cases e : j = n
            · rw [if_pos e, ms_c (by omega), ms_c (by omega), ms_c (by omega), e, ms_eq]
            · rw [if_neg e, F3 _ _ (by omega) (by omega) (by omega), e110]
          · rw [if_neg w, if_neg w]
        · rw [F3 _ _ (by omega) (by omega) (by omega)]; exact h60
        · rw [F3 _ _ (by omega) (by omega) (by omega)]; exact h7
        · rw [F3 _ _ (by omega) (by omega) (by omega)]; exact z3
        · rw [F3 _ _ (by omega) (by omega) (by omega)]; exact z6
        · rw [F3 _ _ (by omega) (by omega) (by omega)]; exact z10
        · rw [F3 _ _ (by omega) (by omega) (by omega)]; exact z13
        · rw [ms_k (by omega), ms_eq]
    · refine ref_ok h (fun Q hQ => m_96 (b_96_0 (s_125 fun r hr => ⟨r, rfl, fun q => absurd q (by omega), fun _ => ⟨fun q => absurd q (by omega), fun _ => ⟨fun _ => b_96_2 g.1 ⟨fun q => absurd (by rw [tc.1] at q; exact q) g2, fun _ => hQ⟩, fun q => absurd g.2.2 q⟩⟩⟩))) (fun Q hQ => m_143 (b_143_0 (s_142 fun r hr => ⟨r, rfl, fun q => absurd q (by omega), fun _ => s_137 fun r2 hr2 => ⟨r2, rfl, fun _ => b_143_2 ⟨g.1, fun q => absurd (by omega) q, fun _ => hQ⟩, fun q => absurd (by omega) q⟩⟩)))
  · refine ref_ok h (fun Q hQ => m_96 (b_96_0 (s_125 fun r hr => ⟨r, rfl, fun q => b_96_1 hQ, fun _ => ⟨fun q => b_96_1 hQ, fun _ => ⟨fun q => absurd (by omega) g, fun _ => b_96_1 hQ⟩⟩⟩))) (fun Q hQ => m_143 (b_143_0 (s_142 fun r hr => ⟨r, rfl, fun q => b_143_1 hQ, fun _ => s_137 fun r2 hr2 => ⟨r2, rfl, fun _ => absurd (by omega) g, fun _ => b_143_1 hQ⟩⟩)))
end
