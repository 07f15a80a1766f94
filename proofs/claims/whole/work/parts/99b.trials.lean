/-! what a run is tried by -/
section
variable {sx : Int → Int} {L : Nat} {M M1 N N' V P P1 P2 s0 s1 s2 : Mem} {A ru le T : Int} {rk lt : Int → Int} {A' ru' le' : Int} {rk' lt' : Int → Int} {Q : Option AV → Mem → Prop} {SR : (Mem → Prop) × (Mem → Prop)}
/-- who is among, rule, lending, ranks, what is later -/
def PG (M : Mem) (A ru le : Int) (rk lt : Int → Int) : Mem := fun c k => if c = 104 ∧ k = 27 then A else if c = 104 ∧ k = 33 then ru else if c = 104 ∧ k = 34 then le else if c = 121 then rk k else if c = 122 then lt k else PTm M c k
/-- the class's trial is so -/
def TrG (M V : Mem) (A ru le : Int) (rk lt : Int → Int) : Prop := BFr M V ∧ V 97 0 = A ∧ V 97 4 = ru ∧ V 97 5 = le ∧ V 97 6 = M 6 6 ∧ V 97 7 = M 6 7 ∧ V 97 8 = -1 ∧ ∀ i, 0 ≤ i → i < 8 → V 98 i = rk i ∧ V 100 i = lt i
/-- that may be tried -/
def OKG (M : Mem) (A ru le : Int) (rk lt : Int → Int) : Prop := (∀ t, 0 ≤ t → t < 8 → tb A t = true → tb (areB M) t = true) ∧ inB A ∧ 0 ≤ ru ∧ ru ≤ 2 ∧ 0 ≤ le ∧ le ≤ 2 ∧ ∀ t, 0 ≤ t → t < 8 → 0 ≤ rk t ∧ rk t ≤ 99 ∧ 0 ≤ lt t ∧ lt t ≤ 3
theorem PG_ok (hb : BASE M) (hV : TrG M V A ru le rk lt) (ok : OKG M A ru le rk lt) : PDs (PG M A ru le rk lt) V 97 := by
  obtain ⟨v1, v2, v3, v4, v5, v6, v7, v8⟩ := hV
  obtain ⟨o1, o2, o3, o4, o5, o6, o7⟩ := ok
  obtain ⟨e1, e2, e3, e4, e5, e6, e7, e8, e9, e10, e11, e12, e13⟩ := hb.2.2.2.2.1
  obtain ⟨q0, q1, q2, q3, q4, q5, q6, q7, q8, q9, q10⟩ := PTm_ok hb
  have f : ∀ c i, ¬ (c = 104 ∧ (i = 27 ∨ i = 33 ∨ i = 34)) → ¬ (c = 121 ∨ c = 122) → PG M A ru le rk lt c i = PTm M c i := fun c i a b => by
    unfold PG
    rw [if_neg (by omega), if_neg (by omega), if_neg (by omega), if_neg (by omega), if_neg (by omega)]
  have e27 : PG M A ru le rk lt 104 27 = A := by unfold PG; rw [if_pos ⟨rfl, rfl⟩]
  have e33 : PG M A ru le rk lt 104 33 = ru := by unfold PG; rw [if_neg (by omega), if_pos ⟨rfl, rfl⟩]
  have e34 : PG M A ru le rk lt 104 34 = le := by unfold PG; rw [if_neg (by omega), if_neg (by omega), if_pos ⟨rfl, rfl⟩]
  have e121 : ∀ t, PG M A ru le rk lt 121 t = rk t := fun t => by unfold PG; rw [if_neg (by omega), if_neg (by omega), if_neg (by omega), if_pos rfl]
  have e122 : ∀ t, PG M A ru le rk lt 122 t = lt t := fun t => by unfold PG; rw [if_neg (by omega), if_neg (by omega), if_neg (by omega), if_neg (by omega), if_pos rfl]
  have e30 : PG M A ru le rk lt 104 30 = -1 := f _ _ (by omega) (by omega)
  have e32 : PG M A ru le rk lt 104 32 = 0 := f _ _ (by omega) (by omega)
  have e24 : PG M A ru le rk lt 104 24 = M 104 24 := f _ _ (by omega) (by omega)
  refine ⟨(q0.fr v1).cg fun c i a b => f c i (by omega) b, ⟨by rw [v2, e27], by rw [v3, e33], by rw [v4, e34], by rw [v5, e24, e9], fun i i0 i1 => ?_, by rw [v7, e30], fun q => by omega⟩, fun i a b c => ?_, by rw [e27]; exact o2, by omega, by omega, by omega, by omega, by omega, by omega, fun i a b => ?_⟩
  · obtain ⟨x1, x2⟩ := v8 i i0 i1
    rw [e121, e122, show (97 : Nat) + 1 = 98 from rfl, show (97 : Nat) + 3 = 100 from rfl]
    exact ⟨x1, x2⟩
  · rw [v1.are]
    rw [e27] at c
    exact o1 i a b c
  · rw [e121, e122]; exact o7 i a b
/-- a memory of the class whose trial is so -/
def VG (M : Mem) (A ru le : Int) (rk lt : Int → Int) : Mem := fun c i => if c = 97 then (if i = 0 then A else if i = 4 then ru else if i = 5 then le else if i = 8 then -1 else M 6 i) else if c = 98 then rk i else if c = 100 then lt i else M c i
theorem VG_s : TrG M (VG M A ru le rk lt) A ru le rk lt := by
  refine ⟨fun c i q => ?_, rfl, rfl, rfl, rfl, rfl, rfl, fun i _ _ => ⟨rfl, rfl⟩⟩
  unfold VG
  rw [if_neg (by unfold baseC at q; omega), if_neg (by unfold baseC at q; omega), if_neg (by unfold baseC at q; omega)]
theorem TrG.fr (h : TrG M V A ru le rk lt) (b : BFr V N) (f : ∀ c k, (c = 97 ∨ c = 98 ∨ c = 100) → N c k = V c k) : TrG M N A ru le rk lt := by
  obtain ⟨v1, v2, v3, v4, v5, v6, v7, v8⟩ := h
  refine ⟨v1.tr b, by rw [f _ _ (by omega)]; exact v2, by rw [f _ _ (by omega)]; exact v3, by rw [f _ _ (by omega)]; exact v4, by rw [f _ _ (by omega)]; exact v5, by rw [f _ _ (by omega)]; exact v6, by rw [f _ _ (by omega)]; exact v7, fun i a b => ?_⟩
  rw [f 98 i (by omega), f 100 i (by omega)]; exact v8 i a b
theorem TrG.bm (h : TrG M V A ru le rk lt) (b : BFr N M) : TrG N V A ru le rk lt := by
  obtain ⟨v1, v2, v3, v4, v5, v6, v7, v8⟩ := h
  exact ⟨b.tr v1, v2, v3, v4, by rw [v5]; exact b.a (c := 6) (by omega) 6, by rw [v6]; exact b.a (c := 6) (by omega) 7, v7, v8⟩
theorem OKG.bm (h : OKG M A ru le rk lt) (b : BFr N M) : OKG N A ru le rk lt := by
  obtain ⟨h1, h2⟩ := h
  exact ⟨fun t t0 t1 w => by rw [← b.are]; exact h1 t t0 t1 w, h2⟩
/-- the run that is tried -/
noncomputable def RG (M : Mem) (A ru le : Int) (rk lt : Int → Int) (T : Int) : Mem := rnF (PG M A ru le rk lt) s00 T.toNat
def ltG (M : Mem) (A ru le : Int) (rk lt : Int → Int) (T : Int) : Prop := 0 < ltA (PG M A ru le rk lt) (RG M A ru le rk lt T) T
noncomputable def lgG (M : Mem) (A ru le : Int) (rk lt : Int → Int) (T t : Int) : Int := lgF (PG M A ru le rk lt) (RG M A ru le rk lt T) t
/-- two that describe one trial -/
theorem two_lt (hb : BASE V) (h1 : PDs P1 V 97) (h2 : PDs P2 V 97) (i1 : IniS s1) (i2 : IniS s2) (t0 : 0 ≤ T) (t1 : T ≤ 120) : (0 < ltA P1 (rnF P1 s1 T.toNat) T ↔ 0 < ltA P2 (rnF P2 s2 T.toNat) T) ∧ ∃ M', RFn P1 (rnF P1 s1 T.toNat) M' 75 T ∧ RFn P2 (rnF P2 s2 T.toNat) M' 75 T := by
  obtain ⟨_, _, M', _, g⟩ := s_36all (sx := fun x => x) (L := 0) (B := 75) (S := 97) (u := 0) (Or.inr rfl) (Or.inr rfl) hb h1 t0 t1 (Q := fun _ M' => ∀ P s0, PDs P V 97 → IniS s0 → GoR P s0 M' 75 T 0) fun M' g _ => g
  have g1 := g P1 s1 h1 i1
  have g2 := g P2 s2 h2 i2
  exact ⟨g1.2.1.symm.trans g2.2.1, M', g1.2.2 (Or.inl rfl), g2.2.2 (Or.inl rfl)⟩
theorem two_ring (hb : BASE V) (h1 : PDs P1 V 97) (h2 : PDs P2 V 97) (i1 : IniS s1) (i2 : IniS s2) (t0 : 0 ≤ T) (t1 : T ≤ 120) : rnF P1 s1 T.toNat 104 49 = rnF P2 s2 T.toNat 104 49 := by
  obtain ⟨_, M', a, b⟩ := two_lt hb h1 h2 i1 i2 t0 t1
  exact a.2.2.2.2.1.1.symm.trans b.2.2.2.2.1.1
theorem two_ch {k : Int} (hb : BASE V) (h1 : PDs P1 V 97) (h2 : PDs P2 V 97) (i1 : IniS s1) (i2 : IniS s2) (t0 : 0 ≤ T) (t1 : T ≤ 120) (k0 : 0 ≤ k) (k1 : k < T) : rnF P1 s1 T.toNat 135 (3 * k) = rnF P2 s2 T.toNat 135 (3 * k) := by
  obtain ⟨_, M', a, b⟩ := two_lt hb h1 h2 i1 i2 t0 t1
  have p1 := (h1.ok hb).1.2.2.2.2.2.2.2.1
  have p2 := (h2.ok hb).1.2.2.2.2.2.2.2.1
  have x := a.2.2.2.2.2 k 0 k0 k1 (by omega) (by omega)
  have y := b.2.2.2.2.2 k 0 k0 k1 (by omega) (by omega)
  rw [Int.add_zero] at x y
  exact x.symm.trans y
theorem two_lg {t : Int} (hb : BASE V) (h1 : PDs P1 V 97) (h2 : PDs P2 V 97) (i1 : IniS s1) (i2 : IniS s2) (T0 : 0 ≤ T) (T1 : T ≤ 120) (t0 : 0 ≤ t) (t1 : t < 8) : lgF P1 (rnF P1 s1 T.toNat) t = lgF P2 (rnF P2 s2 T.toNat) t := by
  obtain ⟨_, M', a, b⟩ := two_lt hb h1 h2 i1 i2 T0 T1
  have p1 := (h1.ok hb).1
  have p2 := (h2.ok hb).1
  have r1 := rn_R p1 i1 T.toNat (by omega)
  have r2 := rn_R p2 i2 T.toNat (by omega)
  rw [Int.toNat_of_nonneg T0] at r1 r2
  have := Mq_all (sx := fun x => x) (L := 0) (M := M') (mi := 11) (av := [vR (ckA 75 t + 2)]) (ι := Bool) (Qi := fun q rv _ => rv = some (vI (if q = true then lgF P1 (rnF P1 s1 T.toNat) t else lgF P2 (rnF P2 s2 T.toNat) t))) true fun q => by
    cases q
    · exact s_11 (Or.inr rfl) t0 t1 p2 T0 T1 b.1 b.2.1 r2 (b.2.2.1 t t0 t1).1 rfl
    · exact s_11 (Or.inr rfl) t0 t1 p1 T0 T1 a.1 a.2.1 r1 (a.2.2.1 t t0 t1).1 rfl
  obtain ⟨_, rv, _, _, g⟩ := this
  have x := g true
  have y := g false
  rw [if_pos rfl] at x
  rw [if_neg (by decide), x] at y
  exact Sum.inl.inj (Option.some.inj y)
/-- the same, told of another memory in which the same is told -/
theorem ltG.bm (hb : BASE M) (ok : OKG M A ru le rk lt) (b : BFr N M) (T0 : 0 ≤ T) (T1 : T ≤ 120) : ltG N A ru le rk lt T ↔ ltG M A ru le rk lt T :=
  (two_lt (hb.fr VG_s.1) (PG_ok (hb.fr b.sy) (VG_s.bm b) (ok.bm b)) (PG_ok hb VG_s ok) s00_ok s00_ok T0 T1).1
theorem ringG.bm (hb : BASE M) (ok : OKG M A ru le rk lt) (b : BFr N M) (T0 : 0 ≤ T) (T1 : T ≤ 120) : RG N A ru le rk lt T 104 49 = RG M A ru le rk lt T 104 49 :=
  two_ring (hb.fr VG_s.1) (PG_ok (hb.fr b.sy) (VG_s.bm b) (ok.bm b)) (PG_ok hb VG_s ok) s00_ok s00_ok T0 T1
theorem lgG.bm {t : Int} (hb : BASE M) (ok : OKG M A ru le rk lt) (b : BFr N M) (T0 : 0 ≤ T) (T1 : T ≤ 120) (t0 : 0 ≤ t) (t1 : t < 8) : lgG N A ru le rk lt T t = lgG M A ru le rk lt T t :=
  two_lg (hb.fr VG_s.1) (PG_ok (hb.fr b.sy) (VG_s.bm b) (ok.bm b)) (PG_ok hb VG_s ok) s00_ok s00_ok T0 T1 t0 t1
/-- the class tries it -/
theorem s_36G {len u : Int} (hb : BASE M) (hV : TrG M M1 A ru le rk lt) (ok : OKG M A ru le rk lt) (l0 : 0 ≤ len) (l1 : len ≤ 120) (hQ : ∀ M2, GoR (PG M A ru le rk lt) s00 M2 75 len u → FrB 75 M1 M2 → TrG M M2 A ru le rk lt → Q none M2) : Mq sx L K0 R0 36 [vR 77, vR 99, vI len, vI u] M1 Q :=
  s_36all (B := 75) (S := 97) (Or.inr rfl) (Or.inr rfl) (hb.fr hV.1) (PG_ok hb hV ok) l0 l1 fun M2 g f => hQ M2 (g _ _ (PG_ok hb hV ok) s00_ok) f (hV.fr f.trf.bf fun c k q => f c k (by unfold outB; omega))
/-- the reference's memory is so -/
def AsG (M N : Mem) (A ru le : Int) (rk lt : Int → Int) : Prop := BFr M N ∧ RDok N ∧ N 104 10 = 1 ∧ N 104 27 = A ∧ (∀ t, 0 ≤ t → t < 8 → N 121 t = rk t ∧ N 122 t = lt t) ∧ N 104 30 = -1 ∧ N 104 33 = ru ∧ N 104 34 = le
theorem AsG.pds (hb : BASE M) (h : AsG M N A ru le rk lt) (ok : OKG M A ru le rk lt) (l : 0 ≤ N 104 32 ∧ N 104 32 ≤ 21) : PDs N (VG M A ru le rk lt) 97 := by
  obtain ⟨bf, rd, e10, e27, e12, e30, e33, e34⟩ := h
  obtain ⟨o1, o2, o3, o4, o5, o6, o7⟩ := ok
  obtain ⟨v1, v2, v3, v4, v5, v6, v7, v8⟩ := VG_s (M := M) (A := A) (ru := ru) (le := le) (rk := rk) (lt := lt)
  obtain ⟨_, _, c, _, ⟨g1, g2, g3, g4, g5, g6, g7, g8, g9, g10, g11, g12, g13⟩, gg⟩ := id hb
  have nv : BFr N (VG M A ru le rk lt) := bf.sy.tr v1
  have pd0 : PD0 N N := ⟨rfl, rfl, fun _ _ _ => ⟨rfl, rfl, rfl⟩, rfl, rfl, fun t t0 t1 => ⟨by
    obtain ⟨_, h2, h3, h4, h5, _, h7⟩ := rd t t0 t1
    exact ⟨h2, h3, h4, h5, h7⟩, rfl⟩⟩
  have n24 := bf.m (k := 24) (by omega)
  refine ⟨pd0.fr nv, ⟨by rw [v2, e27], by rw [v3, e33], by rw [v4, e34], by rw [v5, g9, n24], fun t t0 t1 => ?_, by rw [v7, e30], fun q => by omega⟩, fun t t0 t1 w => ?_, by rw [e27]; exact o2, by omega, by omega, by omega, by omega, l.1, l.2, fun t t0 t1 => ?_⟩
  · obtain ⟨x1, x2⟩ := v8 t t0 t1
    obtain ⟨y1, y2⟩ := e12 t t0 t1
    rw [show (97 : Nat) + 1 = 98 from rfl, show (97 : Nat) + 3 = 100 from rfl, x1, x2, y1, y2]
    exact ⟨rfl, rfl⟩
  · rw [e27] at w
    rw [v1.are]; exact o1 t t0 t1 w
  · obtain ⟨y1, y2⟩ := e12 t t0 t1
    rw [y1, y2]; exact o7 t t0 t1
/-- what tries of the reference may change -/
def FxR (N N' : Mem) : Prop := ∀ c k, ¬ (121 ≤ c ∧ c ≤ 138) → ¬ (c = 104 ∧ 26 ≤ k ∧ k ≤ 63 ∧ ¬ k = 32) → N' c k = N c k
theorem FxR.bf (f : FxR N N') : BFr N N' := fun c k q => f c k (by unfold baseC at q; omega) (by unfold baseC at q; omega)
theorem FxR.tr {N2 : Mem} (f : FxR N N') (g : FxR N' N2) : FxR N N2 := fun c k a b => (g c k a b).trans (f c k a b)
theorem FxR.rfl' : FxR N N := fun _ _ _ _ => rfl
theorem FxR.set {c : Nat} {k v : Int} (f : FxR N N') (h : 121 ≤ c ∧ c ≤ 138 ∨ c = 104 ∧ 26 ≤ k ∧ k ≤ 63 ∧ ¬ k = 32) : FxR N (mset N' c k v) := fun c' k' a b => by
  rw [ms_ne (by omega)]; exact f c' k' a b
theorem INV0.fx (hs : SROK SR) (h : INV0 SR N) (f : FxR N N') : INV0 SR N' := by
  obtain ⟨h1, h2, h3, h4, h5, h6, h7⟩ := h
  have b := f.bf
  refine ⟨h1.fr b, ?_, by rw [f 104 32 (by omega) (by omega)]; exact h3, h4.fr b fun c k q => f c k (by omega) (by omega), hs.1 N N' h5 b fun c k q => f c k (by omega) (by omega), hs.2.2 N N' h6 fun c k q => f c k (by omega) (by omega), FND.fr h7 (f _ _ (by omega) (by omega)) (f _ _ (by omega) (by omega))⟩
  unfold RDI
  rw [f 104 10 (by omega) (by omega)]
  exact h2.imp id fun w => ⟨w.1, w.2.fr b fun c k q => f c k (by omega) (by omega)⟩
theorem AsG.up (h : AsG M N A ru le rk lt) (f : FxR N N') (e30 : N' 104 30 = N 104 30) (e27 : N' 104 27 = A') (e33 : N' 104 33 = ru') (e34 : N' 104 34 = le') (e12 : ∀ t, 0 ≤ t → t < 8 → N' 121 t = rk' t ∧ N' 122 t = lt' t) : AsG M N' A' ru' le' rk' lt' := by
  obtain ⟨b1, b2, b3, b4, b5, b6, b7, b8⟩ := h
  exact ⟨b1.tr f.bf, b2.fr f.bf fun c k q => f c k (by omega) (by omega), by rw [f _ _ (by omega) (by omega)]; exact b3, e27, e12, by rw [e30]; exact b6, e33, e34⟩
/-- what the reference's run comes to -/
def ResG (M N' : Mem) (A ru le : Int) (rk lt : Int → Int) : Prop := N' 104 49 = RG M A ru le rk lt (M 104 25) 104 49 ∧ (∀ k, 0 ≤ k → k < M 104 25 → N' 135 (3 * k) = RG M A ru le rk lt (M 104 25) 135 (3 * k)) ∧ ∀ (sx : Int → Int) (L : Nat) (t : Int) (Q : Option AV → Mem → Prop), 0 ≤ t → t < 8 → Q (some (vI (lgG M A ru le rk lt (M 104 25) t))) N' → Mq sx L K0 R0 186 [vR 106, vI t] N' Q
theorem s_201G (hs : SROK SR) (hb : BASE M) (ok : OKG M A ru le rk lt) (h : AsG M N A ru le rk lt) (hI : INV0 SR N) (hQ : ∀ r N', 0 ≤ r → (0 < r ↔ ltG M A ru le rk lt (M 104 25)) → ResG M N' A ru le rk lt → AsG M N' A ru le rk lt → INV0 SR N' → N' 104 26 = 0 → FxR N N' → (∀ k, N' 138 k = N 138 k) → (∀ k, 52 ≤ k → N' 104 k = N 104 k) → Q (some (vI r)) N') : Mq sx L K0 R0 201 [vR 106] N Q := by
  have pds := h.pds hb ok hI.2.2.1
  have hbV := hb.fr (VG_s (M := M) (A := A) (ru := ru) (le := le) (rk := rk) (lt := lt)).1
  obtain ⟨pv, _, _⟩ := pds.ok hbV
  obtain ⟨g1, g2, g3, g4, g5, g6, g7, g8, g9, g10, g11, g12, g13⟩ := hb.2.2.2.2.1
  have n25 : N 104 25 = M 104 25 := h.1.m (by omega)
  refine m_201 (b_201_0 (s_178 (P := N) pv (fun _ _ _ => rfl) ⟨by omega, by omega⟩ fun s0 N4 hi mr f4 => ⟨rfl, ?_⟩))
  have pg := PG_ok hb (VG_s (M := M) (A := A) (ru := ru) (le := le) (rk := rk) (lt := lt)) ok
  have ri := rn_R pv hi (N 104 25).toNat (by omega)
  have tm : TM N (rnF N s0 (N 104 25).toNat) (mset N4 104 26 0) := mr.tm.fr fun c k q => ms_ne (by unfold isS at q; omega)
  rw [n25] at ri tm
  have iff := (two_lt hbV pds pg hi s00_ok (T := M 104 25) (by omega) g11).1
  have ring := two_ring hbV pds pg hi s00_ok (T := M 104 25) (by omega) g11
  have ch := fun k k0 k1 => two_ch (k := k) hbV pds pg hi s00_ok (T := M 104 25) (by omega) g11 k0 k1
  have lg := fun t t0 t1 => two_lg (t := t) hbV pds pg hi s00_ok (T := M 104 25) (by omega) g11 t0 t1
  rw [Int.toNat_of_nonneg (by omega)] at ri
  have nn : 0 ≤ ltA N (rnF N s0 (M 104 25).toNat) (M 104 25) := (sumI_0 (n := 8) (f := ltF N (rnF N s0 (M 104 25).toNat) (M 104 25)) (b := 120) (fun t x y => ltF_B ri x (by omega))).1
  have fx : FxR N (mset N4 104 26 0) := fun c k a b => by
    rw [ms_ne (by omega)]; exact f4 c k (by unfold runC; omega)
  have keep : ∀ c k, (c = 121 ∨ c = 122 ∨ c = 104 ∧ (k = 27 ∨ 30 ≤ k ∧ k ≤ 34)) → mset N4 104 26 0 c k = N c k := fun c k q => by
    rw [ms_ne (by omega)]; exact f4 c k (by unfold runC; omega)
  refine s_180 pv ri tm ⟨_, rfl, ?_⟩
  rw [n25]
  refine hQ _ _ nn iff ⟨?_, fun k k0 k1 => ?_, fun sx L t Q t0 t1 q => ?_⟩ (h.up fx (keep _ _ (by omega)) ?_ ?_ ?_ fun t t0 t1 => ?_) (hI.fx hs fx) ms_eq fx (fun k => ?_) fun k k52 => ?_
  · rw [tm.1 104 49 (by unfold isS; omega)]; exact ring
  · rw [tm.1 135 _ (by unfold isS; omega)]; exact ch k k0 k1
  · refine s_186 pv ri (by omega) g11 tm t0 t1 ?_
    rw [lg t t0 t1]; exact q
  · rw [keep _ _ (by omega)]; exact h.2.2.2.1
  · rw [keep _ _ (by omega)]; exact h.2.2.2.2.2.2.1
  · rw [keep _ _ (by omega)]; exact h.2.2.2.2.2.2.2
  · rw [keep 121 t (by omega), keep 122 t (by omega)]; exact h.2.2.2.2.1 t t0 t1
  · rw [ms_c (by omega)]; exact f4 _ _ (by unfold runC; omega)
  · rw [ms_k (by omega)]; exact f4 _ _ (by unfold runC; omega)
/-- the reference begins with what is told -/
theorem s_159G (hs : SROK SR) (hI : INV0 SR N) (b : BFr M N) (hQ : ∀ N', AsG M N' (areB M) (M 104 22) (M 104 23) (fun t => M 111 t) (fun _ => 0) → INV0 SR N' → FrA N N' → Q none N') : Mq sx L K0 R0 159 [vR 106] N Q := by
  refine s_159 (I := INV0 SR) (fun M h => h.1) (fun Q hQ => s_150z hs hI hQ) fun N1 N2 h1 e1 r1 f1 g2 a2 => ?_
  have fa : FrA N1 N2 := fun c k p q => g2 c k (by omega) (by omega)
  have bf : BFr M N2 := (b.tr f1.bf).tr fa.bf
  obtain ⟨t1, t2, t3, t4, t5⟩ := a2
  refine hQ N2 ⟨bf, r1.fr fa.bf fun c k q => g2 c k (by omega) (by omega), by rw [g2 _ _ (by omega) (by omega)]; exact e1, by rw [t1, bf.are], fun t a b => ?_, t3, by rw [t4, bf.m (by omega)], by rw [t5, bf.m (by omega)]⟩ (h1.fa hs fa (g2 _ _ (by omega) (by omega)) fun c k q => g2 c k (by omega) (by omega)) (f1.tr fa)
  rw [(t2 t a b).1, (t2 t a b).2, bf.a (c := 111) (by omega)]
  exact ⟨rfl, rfl⟩
theorem OKG0 (hb : BASE M) : OKG M (areB M) (M 104 22) (M 104 23) (fun t => M 111 t) (fun _ => 0) := by
  obtain ⟨g1, g2, g3, g4, g5, g6, g7⟩ := hb.2.2.2.2.1
  refine ⟨fun t _ _ w => w, areB_B, g1, g2, g4, g5, fun t a b => ?_⟩
  obtain ⟨r1, r2, _⟩ := hb.2.2.1 t a b
  exact ⟨r1, r2, Int.le_refl 0, show (0 : Int) ≤ 3 by omega⟩
/-- the trial is as the setting is, but for worth and lengths -/
theorem AsS.tr (hb : BASE M) (h : AsS M N) (b : BFr M N) : TrG M N (areB M) (M 104 22) (M 104 23) (fun t => M 111 t) (fun _ => 0) := by
  obtain ⟨_, _, c, _, ⟨g1, g2, g3, g4, g5, g6, g7, g8, g9, g10, g11, g12, g13⟩, gg⟩ := id hb
  obtain ⟨h1, h2⟩ := h
  refine ⟨b, by rw [h1 0 (by omega)]; exact gg, by rw [h1 4 (by omega)]; exact g3, by rw [h1 5 (by omega)]; exact g6, h1 6 (by omega), h1 7 (by omega), by rw [h1 8 (by omega)]; exact g13, fun i a b => ?_⟩
  obtain ⟨r1, r2, r3, r4, r5, r6, r7⟩ := c i a b
  obtain ⟨x1, x2, x3⟩ := h2 i a b
  rw [x1, x3]
  exact ⟨r3, r7⟩
/-- what the class's searches may change -/
def FxC (M M' : Mem) : Prop := ∀ c k, ¬ (74 ≤ c ∧ c ≤ 103) → M' c k = M c k
theorem FxC.bf (f : FxC M N) : BFr M N := fun c k q => f c k (by unfold baseC at q; omega)
theorem FxC.tr (f : FxC M N) (g : FxC N N') : FxC M N' := fun c k q => (g c k q).trans (f c k q)
theorem FxC.rfl' : FxC M M := fun _ _ _ => rfl
theorem TrF.s (f : TrF M N) : FxC M N := fun c k q => f c k (by omega)
theorem FrB.s (f : FrB 75 M N) : FxC M N := f.trf.s
theorem FxC.set {c : Nat} {k v : Int} (f : FxC M N) (h : 74 ≤ c ∧ c ≤ 103) : FxC M (mset N c k v) := fun c' k' a => by
  rw [ms_c (by omega)]; exact f c' k' a
theorem INVM.sea (hs : SROK SR) (h : INVM SR M) (f : FxC M N) (k : SR.1 N) : INVM SR N := by
  obtain ⟨⟨h1, h2, h3, h4, h5, h6, h7⟩, h8⟩ := h
  have b := f.bf
  refine ⟨⟨h1.fr b, ?_, by rw [f 104 32 (by omega)]; exact h3, h4.fr b fun c k q => f c k (by omega), k, hs.2.2 M N h6 fun c k q => f c k (by omega), FND.fr h7 (f _ _ (by omega)) (f _ _ (by omega))⟩, h8.fr b fun c k q => f c k (by unfold isS at q; omega)⟩
  unfold RDI
  rw [f 104 10 (by omega)]
  exact h2.imp id fun w => ⟨w.1, w.2.fr b fun c k q => f c k (by omega)⟩
end
