/-! the law's start: from a run of the small machine to the claim -/
def LawRun : Prop := ∀ (sx : Int → Int) (L : Nat), L ≤ 3072 → (∀ j, inR (sx j)) → ∃ (n : Nat) (σ' : Sg), run sx L n 227 (blk 227 0).1 (blk 227 0).2 (ini 227 [vR 1]) [] σE = some (some (vI 1), σ') ∧ σ'.1.length ≤ 600000 ∧ slN σ'.1 ≤ 7302250
theorem ao_cls {C : String} {args : Array Value} {s : State} (h : (Jvm.Cond.arrayOver (.object C)).before args s = true) : ∃ cB : ClassId, ArrOfT s cB (.object C) ∧ va_RA s cB (.object C) := by
  obtain ⟨comp, c, k, h1, h2, h3, h4, h5⟩ := Cond.arrayOver_spec h
  exact ⟨c, fun n z => ⟨(fun k' h' => by cases h'), k, h3, comp, h4⟩, k, comp, h3, h4, h1, h5⟩
theorem ac_int {args : Array Value} {s : State} (h : (Jvm.Cond.arrayClass .int).before args s = true) : ∃ cB : ClassId, ArrOfT s cB .int ∧ va_RA s cB .int := by
  obtain ⟨c, k, comp, h1, h2, h3⟩ := Cond.arrayClass_spec h
  exact ⟨c, fun n z => ⟨(fun k' h' => by cases h'), k, h2, comp, h3⟩, h1⟩
theorem ac_bool {args : Array Value} {s : State} (h : (Jvm.Cond.arrayClass .boolean).before args s = true) : ∃ cB : ClassId, ArrOfT s cB .boolean ∧ va_RA s cB .boolean := by
  obtain ⟨c, k, comp, h1, h2, h3⟩ := Cond.arrayClass_spec h
  exact ⟨c, fun n z => ⟨(fun k' h' => by cases h'), k, h2, comp, h3⟩, h1⟩
theorem hw_ao : ∀ i ∈ [(193, RX1), (262, RX6), (371, RX0)], lw_tbl[i.1]? = some (Jvm.Cond.arrayOver (.object i.2)) := by decide +kernel
theorem law_mF : mF 227 ≤ room_1.frames ∧ mW 227 ≤ room_1.locals := ⟨Nat.le_of_ble_eq_true (by decide +kernel), Nat.le_of_ble_eq_true (by decide +kernel)⟩
theorem law_own : mO 227 = R_law := by decide +kernel
theorem law_L : mL 227 = 4 := by decide +kernel
theorem law_C : mC 227 = code := by rfl
theorem law_Y : (mY 227).name = "law" := by decide +kernel
theorem law_R : mR 227 = some .boolean := by decide +kernel
set_option maxHeartbeats 4000000 in
theorem whole_open (hlaw : LawRun) {p : Program} {e : Env} {s : State} {m : MethodId} {below : List Frame} {meth : Method} {c : Code} (l : Launch) {b L : Nat} {xs : Nat → Int32} (hL : L ≤ 3072) (C0 : lw_At p s m meth c b L xs) : W p l e room_1 s m #[Value.ref b] below meth c s.heap [] 0 0 (lw_Z below #[Value.ref b] s) (entryFrame m ([Value.ref b] : List Value).toArray 4) := by
  obtain ⟨hx, hb, hr, hml, hown, hts, hX, hbl, hlocks, hgv⟩ := id C0
  have hbig : ∀ w ∈ bigW, w.before #[Value.ref b] s = true := fun w hw => hts w (List.mem_filter.mp hw).1
  have hnst : ∀ w ∈ nstW, w.before #[Value.ref b] s = true := fun w hw => hts w (List.mem_filter.mp hw).1
  have ao : ∀ i ∈ [(193, RX1), (262, RX6), (371, RX0)], (Jvm.Cond.arrayOver (.object i.2)).before #[Value.ref b] s = true := fun i hi => hts _ (List.mem_of_getElem? (hw_ao i hi))
  have ao0 := ao (371, RX0) (by simp)
  have ao1 := ao (193, RX1) (by simp)
  have ao6 := ao (262, RX6) (by simp)
  obtain ⟨a0, a0', a0''⟩ := ac_int (hbig _ hw_ai)
  obtain ⟨a1, a1', a1''⟩ := ac_bool (hbig _ hw_az)
  obtain ⟨a2, a2', a2''⟩ := ao_cls ao0
  obtain ⟨a3, a3', a3''⟩ := ao_cls ao1
  obtain ⟨a4, a4', a4''⟩ := ao_cls ao6
  have hkn : ∀ ci, ∃ (cC : ClassId) (iS : Nat → Nat), ci < 10 → u_Kn s (clD ci).1 (clD ci).2.1 (clD ci).2.2 cC iS := by
    intro ci
    by_cases h : ci < 10
    · obtain ⟨cC, iS, hk⟩ := u_known (C := (clD ci).1) (T := (clD ci).2.1) (N := (clD ci).2.2) (n := (clD ci).2.2) hbig (cl_lay ci h) (hbig _ (hw_inst ci h))
      exact ⟨cC, iS, fun _ => hk⟩
    · exact ⟨0, fun _ => 0, fun q => absurd q h⟩
  obtain ⟨dC, hdC⟩ := Classical.skolem.mp hkn
  obtain ⟨dI, hdI⟩ := Classical.skolem.mp hdC
  obtain ⟨cA, e0, e1, e2, e3, e4⟩ : ∃ cA : Nat → ClassId, cA 0 = a0 ∧ cA 1 = a1 ∧ cA 2 = a2 ∧ cA 3 = a3 ∧ cA 4 = a4 := ⟨fun k => if k = 0 then a0 else if k = 1 then a1 else if k = 2 then a2 else if k = 3 then a3 else a4, rfl, rfl, rfl, rfl, rfl⟩
  have hK : va_K (dC, dI) vwCl (ty5 cA) s := by
    refine ⟨fun k q hq => ?_, fun k q hq => ?_⟩
    · have hk : k < 10 := (List.getElem?_eq_some_iff.mp hq).1
      have := hdI k hk
      rw [cl_get k hk] at hq
      cases hq
      exact this
    · have hm := List.mem_of_getElem? hq
      simp only [ty5, e0, e1, e2, e3, e4, List.mem_cons, List.not_mem_nil, or_false] at hm
      rcases hm with rfl | rfl | rfl | rfl | rfl
      · exact ⟨a0', a0''⟩
      · exact ⟨a1', a1''⟩
      · exact ⟨a2', a2''⟩
      · exact ⟨a3', a3''⟩
      · exact ⟨a4', a4''⟩
  have C : Cx p s m #[Value.ref b] c (mC 227) (mL 227) (mO 227) (dC, dI) cA := ⟨hx, hb.trans law_C.symm, hml.trans law_L.symm, by rw [law_own]; exact hown, hbig, hK, hnst, va_AO.of ao0, va_AO.of ao1, va_AO.of ao6⟩
  have hsx : ∀ j : Int, inR ((xs j.toNat).toInt) := fun j => r32 _
  obtain ⟨n, σ', hrun, hl1, hl2⟩ := hlaw (fun j => (xs j.toNat).toInt) L hL hsx
  have hxs : (fun j : Nat => Int32.ofInt ((fun j : Int => (xs j.toNat).toInt) (j : Int))) = xs := by
    funext j
    simp
  rw [lg_entry_eq]
  have hB : okB 227 = true := okB_law
  have hD : (ents 227).all (dcE 227) = true := dcA _ (by decide)
  have G := snd_all (fun j => (xs j.toNat).toInt) L (fun mi h => ⟨okBM mi h, dcA mi (by omega)⟩) n 227 _ _ _ _ _ _ _ hrun (blk_ok hB 0).1 (blk_dc hD 0) hB hD (p := p) (l := l) (e := e) (R := room_1) (s := s) (m := m) (args := #[Value.ref b]) (below := below) (meth := meth) (c := c) (Q := lw_Z below #[Value.ref b] s) (n0 := s.heap.size) (b := b) (k0 := 0) (s0 := 0) (D := (dC, dI)) (cA := cA)
    C (fun q => by rw [law_Y] at q; exact absurd q (by decide)) law_mF.1 law_mF.2 (by show σ'.1.length - 0 ≤ 600000; omega) (by show slN σ'.1 - 0 ≤ 7302250; omega) ?_
  · rw [(blk_ok hB 0).2, (okB_e hB).1] at G
    have G2 := G s.heap [] _ ⟨fun v hv => ?_, (fun v hv => by cases hv), fun c j => z32, fun q hq => by cases hq⟩ ⟨rfl, fun k q h => by simp [wd, σE] at h, by rw [hxs]; exact hX, hbl, by omega, hsx⟩ (fun q hq => by cases hq) (LH_entry (n0 := s.heap.size) (b := b) (mi := 227) (av := [vR 1]) (by rw [law_L]; decide) (fun v hv => by rw [List.mem_singleton.mp hv]; rfl)) (Nat.zero_le _) (Nat.zero_le _) rfl
    · have e5 : ([vR 1] : List AV).map (cv s.heap.size b) = [Value.ref b] := rfl
      rw [e5, law_L] at G2
      exact G2
    · rcases List.mem_append.mp hv with q | q
      · rw [List.mem_singleton.mp q]; trivial
      · rw [List.eq_of_mem_replicate q]; trivial
  · intro H locs lsA pc hp hW hLo q1 q2 hd hrt
    rw [law_C] at hd
    refine va_forget (fun q hq => hLo q hq) ?_
    refine W.widen (k := 600000) (n := 7302250) (by omega) (by omega) ?_
    exact lw_ret hx hb hr hlocks hd
