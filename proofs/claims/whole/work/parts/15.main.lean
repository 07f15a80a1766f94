theorem okM_e {mi : Nat} (h : okM mi = true) : Jvm.Cond.code (mY mi) (mC mi) (mL mi) (mR mi) ∈ bigW ∧ Jvm.Cond.initialized (mY mi).cls ∈ bigW ∧ mO mi = (mY mi).cls ∧ plainName (mY mi).cls = true ∧ (mY mi).cls ≠ "java/lang/invoke/MethodHandle" ∧ (mY mi).cls ≠ "java/lang/invoke/VarHandle" := by
  simp only [okM, Bool.and_eq_true, decide_eq_true_eq] at h
  obtain ⟨⟨⟨⟨⟨⟨h1, h2⟩, h3⟩, h4⟩, h5⟩, h6⟩, h7⟩ := h
  exact ⟨bigW_of (wdo_e h1) h7, bigW_of (wdo_e h2) rfl, h3, h4, h5, h6⟩
theorem ini_len {mi : Nat} {av : List AV} (h : av.length ≤ mL mi) : (ini mi av).length = mL mi := by simp [ini]; omega
theorem sl_len {n0 b : Nat} {av : List AV} (h2 : ∀ v ∈ av, cat2 v = false) : (lg_sl (av.map (cv n0 b))).length = av.length := by
  induction av with
  | nil => rfl
  | cons v r ih =>
    have h3 := cv_cat (n0 := n0) (b := b) (h2 v List.mem_cons_self)
    have h4 := ih (fun w hw => h2 w (List.mem_cons_of_mem _ hw))
    simp only [lg_sl, List.map_cons, List.flatMap_cons, List.length_append, List.length_cons] at h4 ⊢
    rw [if_neg (by omega), h4]
    simp
    omega
theorem args_at {n0 b : Nat} : ∀ (av : List AV) (k i : Nat) (v : AV), (∀ v ∈ av, cat2 v = false) → av[i]? = some v → (k + i, cv n0 b v) ∈ lv_args k (av.map (cv n0 b)) := by
  intro av
  induction av with
  | nil => intro k i v _ h; simp at h
  | cons w r ih =>
    intro k i v h2 h
    have h3 := cv_cat (n0 := n0) (b := b) (h2 w List.mem_cons_self)
    cases i with
    | zero =>
      simp at h
      subst h
      simp [lv_args]
    | succ i =>
      rw [List.getElem?_cons_succ] at h
      have h4 := ih (k + 1) i v (fun w hw => h2 w (List.mem_cons_of_mem _ hw)) h
      simp only [List.map_cons, lv_args]
      rw [if_neg (by omega)]
      refine List.mem_cons_of_mem _ ?_
      rw [show k + (i + 1) = k + 1 + i by omega]
      exact h4
theorem LH_entry {n0 b mi : Nat} {av : List AV} (h1 : av.length ≤ mL mi) (h2 : ∀ v ∈ av, cat2 v = false) : LH n0 b ((lg_sl (av.map (cv n0 b)) ++ List.replicate (mL mi - (lg_sl (av.map (cv n0 b))).length) Slot.unset).toArray) (mL mi) (ini mi av) := by
  have hl := lv_entry (av.map (cv n0 b)) (n := mL mi) (by rw [sl_len h2]; exact h1)
  refine ⟨ini_len h1, hl.1, hl.2.1, fun q hq => ?_⟩
  obtain ⟨w, h3, h4, h5⟩ := lst_of hq
  obtain ⟨i, q2⟩ := q
  dsimp only at h3 h5
  subst h5
  refine hl.2.2 (i, cv n0 b w) ?_
  rcases Nat.lt_or_ge i av.length with hi | hi
  · unfold ini at h3
    rw [List.getElem?_append_left hi] at h3
    have := args_at (n0 := n0) (b := b) av 0 i w h2 h3
    rwa [Nat.zero_add] at this
  · unfold ini at h3
    rw [List.getElem?_append_right hi] at h3
    have := List.eq_of_mem_replicate (List.mem_of_getElem? h3)
    subst this
    simp [isU] at h4
theorem met_run {sx : Int → Int} {L n : Nat} (IH : Snd sx L n) {mi' : Nat} {av : List AV} {σ σ' : Sg} {rv : Option AV} (h : run sx L n mi' (blk mi' 0).1 (blk mi' 0).2 (ini mi' av) [] σ = some (rv, σ')) (hB : okB mi' = true) (hD : (ents mi').all (dcE mi') = true) (hM : okM mi' = true)
    (h1 : av.length ≤ mL mi') (h2 : ∀ v ∈ av, cat2 v = false) (h3 : ∀ v ∈ av, okv v) (h4 : ∀ c j, inR (σ.2.2 c j)) (h5 : ∀ q ∈ σ.1, q.2 ≤ 100000) (l : Launch) (n0 b : Nat) (D : va_G) (cA : Nat → ClassId) :
    Met l (mY mi') (Jvm.Cond.code (mY mi') (mC mi') (mL mi') (mR mi') :: bigW) { frames := mF mi', cells := σ'.1.length - σ.1.length, slots := slN σ'.1 - slN σ.1, locals := mW mi' } (va_Pc (av.map (cv n0 b)) (fun U => CWd D cA U ∧ WH n0 b L sx D cA U σ U.heap)) (QcR n0 b L sx D cA σ' rv) (σ'.1.length - σ.1.length) (slN σ'.1 - slN σ.1) (fun q => n0 ≤ q) := by
  obtain ⟨m1, m2, m3, m4, m5, m6⟩ := okM_e hM
  refine Met.ofW (cc := mC mi') (maxL := mL mi') (ret := mR mi') m4 rfl ?_
  intro p e s m args below meth c s₁ B hml hv
  obtain ⟨rfl, hcw, hWH⟩ := hv
  have hts := atoms_spec (ws := Jvm.Cond.code (mY mi') (mC mi') (mL mi') (mR mi') :: bigW) B.pre
  have hown : s.vm.findClass (mO mi') = some m.cls := by rw [m3]; exact findClass_of_methodNamed B.named
  have hlocks := B.notSynchronized
  have hname : meth.name = (mY mi').name := (name_of_methodNamed B.named B.method).1
  have C : Cx p s m (av.map (cv n0 b)).toArray c (mC mi') (mL mi') (mO mi') D cA := ⟨B.exec, B.bytes, hml, hown, fun w hw => hts w (List.mem_cons_of_mem _ hw), hcw.1, fun w hw => (hcw.2.1 w hw).use (nst_tab hw), hcw.2.2.1, hcw.2.2.2.1, hcw.2.2.2.2⟩
  rw [lg_entry_eq]
  have G := IH mi' _ _ _ _ _ _ _ h (blk_ok hB 0).1 (blk_dc hD 0) hB hD (p := p) (l := l) (e := e) (R := (headSpec (Jvm.Cond.code (mY mi') (mC mi') (mL mi') (mR mi') :: bigW) { frames := mF mi', cells := σ'.1.length - σ.1.length, slots := slN σ'.1 - slN σ.1, locals := mW mi' }).room) (s := s) (m := m) (args := (av.map (cv n0 b)).toArray) (below := below) (meth := meth) (c := c) (Q := MQ below (QcR n0 b L sx D cA σ' rv) (av.map (cv n0 b)).toArray s (σ'.1.length - σ.1.length) (slN σ'.1 - slN σ.1) (fun q => n0 ≤ q)) (n0 := n0) (b := b) (k0 := σ.1.length) (s0 := slN σ.1) (D := D) (cA := cA)
    C (fun q => hname.trans q) (Nat.le_refl _) (Nat.le_refl _) (Nat.le_refl _) (Nat.le_refl _) ?_
  · rw [(blk_ok hB 0).2, (okB_e hB).1] at G
    have G2 := G s.heap [] _ ⟨fun v hv => ?_, (fun v hv => by cases hv), h4, h5⟩ hWH (fun q hq => by cases hq) (LH_entry h1 h2) (Nat.le_refl _) (Nat.le_refl _) hWH.1
    · simp only [Nat.sub_self, List.map_nil] at G2
      exact G2
    · rcases List.mem_append.mp hv with q | q
      · exact h3 v q
      · rw [List.eq_of_mem_replicate q]; trivial
  · intro H locs lsA pc hp hW hL q1 q2 hd hrt
    have hQ : ∀ t : State, t.heap = H → s.WarmedH t.vm → WH n0 b L sx D cA t σ' t.heap := fun t ht hWt => by rw [ht]; exact hW.moved hWt.alike
    have hr := B.returns
    rcases rv with _ | v | v | r | u
    · refine W.vret B.exec B.bytes ?_ (fun t ht hWt => ⟨rfl, hQ t ht hWt, hp⟩) hL hd
      rw [hr]
      revert hrt
      cases mR mi' with
      | none => intro _; rfl
      | some ty => intro q; cases ty <;> simp [rtOk] at q
    · have hz : ∃ ty, mR mi' = some ty ∧ narrow ty (.int (Int32.ofInt v)) = .int (Int32.ofInt v) := by
        revert hrt
        cases mR mi' with
        | none => intro q; simp [rtOk] at q
        | some ty =>
          intro q
          refine ⟨ty, rfl, ?_⟩
          cases ty <;> simp only [rtOk] at q
          case int => rfl
          case boolean => rcases q with rfl | rfl <;> rfl
      obtain ⟨ty, hty, hnar⟩ := hz
      exact W.zret (v := Int32.ofInt v) B.exec B.bytes (hr.trans hty) hnar (fun t ht hWt => ⟨rfl, hQ t ht hWt, hp⟩) hL hd
    · refine W.lret (v := Int64.ofInt v) B.exec B.bytes ?_ (fun t ht hWt => ⟨rfl, hQ t ht hWt, hp⟩) hL hd
      rw [hr]
      revert hrt
      cases mR mi' with
      | none => intro q; simp [rtOk] at q
      | some ty => intro q; cases ty <;> simp [rtOk] at q; rfl
    · have hz : ∃ nm, mR mi' = some (.object nm) := by
        revert hrt
        cases mR mi' with
        | none => intro q; simp [rtOk] at q
        | some ty => intro q; cases ty <;> simp [rtOk] at q; exact ⟨_, rfl⟩
      obtain ⟨nm, hnm⟩ := hz
      exact W.aret (v := cvR n0 b r) B.exec B.bytes (hr.trans hnm) (Or.inl ⟨nm, rfl⟩) (by unfold cvR; cases rfo n0 b r; exact Or.inl rfl; exact Or.inr ⟨_, rfl⟩) (fun t ht hWt => ⟨rfl, hQ t ht hWt, hp⟩) hL hd
    · exfalso
      revert hrt
      cases mR mi' with
      | none => intro q; simp [rtOk] at q
      | some ty => intro q; cases ty <;> simp [rtOk] at q

theorem GW.intro {p : Program} {l : Launch} {e : Env} {R : Room} {s : State} {m : MethodId} {args : Array Value} {below : List Frame} {meth : Method} {c : Code} {Q : State → Prop} {nL n0 b L k0 s0 : Nat} {sx : Int → Int} {D : va_G} {cA : Nat → ClassId} {pc : Nat} {ls st : List AV} {σ : Sg}
    (h : INV ls st σ → GW p l e R s m args below meth c Q nL n0 b L sx D cA k0 s0 pc ls st σ) : GW p l e R s m args below meth c Q nL n0 b L sx D cA k0 s0 pc ls st σ := fun H locs lsA I => h I H locs lsA I
theorem clR_e {mi' np : Nat} {st : List AV} {σ : Sg} {z : Nat × List AV × List AV} (h : clR mi' np st σ = some z) : ∃ c r n, np + 1 ≤ mL mi' ∧ np ≤ st.length ∧ (∀ v ∈ st.take np, cat2 v = false) ∧ st.drop np = vR (c + 2) :: r ∧ σ.1[c]? = some (mK mi', n) ∧ catS r ≤ 8 ∧ z = (mi', vR (c + 2) :: (st.take np).reverse, r) := by
  unfold clR at h
  obtain ⟨⟨h1, h2, h3⟩, h⟩ := ite_e h
  split at h
  · next c r hd =>
    split at h
    · next kd n hk =>
      obtain ⟨⟨h4, h5⟩, h0⟩ := ite_e h
      clear h
      subst h4
      cases h0
      exact ⟨c, r, n, h1, h2, fun v hv => by simpa using List.all_eq_true.mp h3 v hv, hd, hk, h5, rfl⟩
    · cases h
  · cases h
theorem lnko_e {mi i h : Nat} {y : MethodName} (q : lnko mi i h y = true) : Jvm.Cond.methodLink (mO mi) i y ∈ bigW ∨ Jvm.Cond.methodLinkNest (mO mi) i y "OneKnife" ∈ nstW := by
  simp only [lnko, Bool.or_eq_true] at q
  rcases q with q | q
  · exact Or.inl (bigW_of (wdo_e q) rfl)
  · exact Or.inr (nstW_of (wdo_e q) rfl)
theorem depo_e {mi mi' np : Nat} (q : depo mi mi' np = true) : mi' < 227 ∧ mF mi' + 1 ≤ mF mi ∧ 8 + (mL mi' + 11) + mW mi' ≤ mW mi ∧ (parseMethodDescriptor (mY mi').desc).map (fun d => d.parameters.length) = some np := by
  simp only [depo, Bool.and_eq_true, decide_eq_true_eq] at q
  exact ⟨q.1.1.1, q.1.1.2, q.1.2, q.2⟩
theorem Pc_blind {n0 b L : Nat} {sx : Int → Int} {D : va_G} {cA : Nat → ClassId} {av : List Value} {σ : Sg} : FrameBlind (va_Pc av (fun U => CWd D cA U ∧ WH n0 b L sx D cA U σ U.heap)) := fun a U g mk q => ⟨q.1, q.2.1.same (u := U) (U := U.calling g mk a) rfl, q.2.2.moved (u := U) (U := U.calling g mk a) (Vm.Alike.refl U.vm)⟩
section SC
variable {p : Program} {l : Launch} {e : Env} {R : Room} {s : State} {m : MethodId} {args : Array Value} {below : List Frame} {meth : Method} {c : Code} {Q : State → Prop} {cc : ByteArray} {nL : Nat} {own : String} {n0 b L k0 s0 : Nat} {sx : Int → Int} {D : va_G} {cA : Nat → ClassId}
theorem Cx.wd {mi : Nat} (C : Cx p s m args c cc nL own D cA) : CWd D cA s := ⟨C.2.2.2.2.2.1, fun w hw => va_Nw.of (nst_tab hw) (C.2.2.2.2.2.2.1 w hw), C.2.2.2.2.2.2.2.1, C.2.2.2.2.2.2.2.2.1, C.2.2.2.2.2.2.2.2.2⟩
theorem Pc_holds {H : Heap} {σ : Sg} {av : List Value} (C : Cx p s m args c cc nL own D cA) (hW : WH n0 b L sx D cA s σ H) : ∀ U : State, U.heap = H → s.WarmedH U.vm → va_Pc av (fun U => CWd D cA U ∧ WH n0 b L sx D cA U σ U.heap) av.toArray U := fun U hU hw => ⟨rfl, (Cx.wd (mi := 0) C).warm hw, by rw [hU]; exact hW.moved hw.alike⟩
theorem pm_len {y : MethodName} {n : Nat} (h : (parseMethodDescriptor y.desc).map (fun d => d.parameters.length) = some n) : ∀ sig, parseMethodDescriptor y.desc = some sig → n = sig.parameters.length := fun sig hs => by
  rw [hs] at h
  exact (Option.some.inj h).symm
theorem call_run {n mi mi' np i h pc ln : Nat} {ins : Instr} {aux : List Nat} {ls st rest av : List AV} {σ σ1 : Sg} {rv1 : Option AV} (IH : Snd sx L n) (hbm : ∀ mi, mi < 227 → (okB mi = true ∧ okM mi = true) ∧ (ents mi).all (dcE mi) = true)
    (C : Cx p s m args c (mC mi) nL (mO mi) D cA) (hd : decode (mC mi) pc = .ok (ins, ln)) (hok : okI mi (pc, ln, ins, aux) = true) (hc : clV (pc, ln, ins, aux) st σ = some (mi', av, rest)) (hr : run sx L n mi' (blk mi' 0).1 (blk mi' 0).2 (ini mi' av) [] σ = some (rv1, σ1))
    (hfr : mF mi ≤ R.frames) (hlo : mW mi ≤ R.locals) (hcl : σ1.1.length - k0 ≤ R.cells) (hsl : slN σ1.1 - s0 ≤ R.slots) (kk : GW p l e R s m args below meth c Q nL n0 b L sx D cA k0 s0 (pc + 3) ls (rv1.toList ++ rest) σ1) : ln = 3 ∧ GW p l e R s m args below meth c Q nL n0 b L sx D cA k0 s0 pc ls st σ := by
  have hlen := run_len hr
  unfold clV at hc
  dsimp only at hc
  split at hc
  · split at hc
    · next i2 aux2 mi2 hh np2 r2 =>
      obtain ⟨⟨q1, q2, q3, q4⟩, hc⟩ := ite_e hc
      cases hc
      simp only [okI, Bool.and_eq_true, decide_eq_true_eq] at hok
      obtain ⟨rfl, ⟨hl, hdp⟩, hst⟩ := hok
      obtain ⟨d1, d2, d3, d4⟩ := depo_e hdp
      obtain ⟨⟨b1, b2⟩, b3⟩ := hbm _ d1
      obtain ⟨m1, m2, m3, m4, m5, m6⟩ := okM_e b2
      have hstat : Jvm.Cond.static (mY mi') ∈ bigW := bigW_of (wdo_e hst) rfl
      have hav : (List.take np2 st).reverse.length = np2 := by simp; omega
      have hc2 : ∀ v ∈ (List.take np2 st).reverse, cat2 v = false := fun v hv => by simpa using List.all_eq_true.mp q3 v (List.mem_reverse.mp hv)
      refine ⟨rfl, gs_call (a := ((List.take np2 st).reverse.map (cv n0 b)).toArray) hlen (fun v hv => List.mem_of_mem_drop hv) (fun H locs lsA I hW hlh h1 h2 => ?_) kk⟩
      have hM := met_run IH hr b1 b3 b2 (by rw [hav]; exact q1) hc2 (fun v hv => I.2.1 v (List.mem_of_mem_take (List.mem_reverse.mp hv))) I.2.2.1 I.2.2.2 l n0 b D cA
      have hstack : st.map (cv n0 b) = ((List.take np2 st).reverse.map (cv n0 b)).reverse ++ (List.drop np2 st).map (cv n0 b) := by
        rw [← List.map_reverse, List.reverse_reverse, ← List.map_append, List.take_append_drop]
      have hfit : σ.1.length - k0 + (σ1.1.length - σ.1.length) ≤ R.cells ∧ slN σ.1 - s0 + (slN σ1.1 - slN σ.1) ≤ R.slots := by constructor <;> omega
      rcases lnko_e hl with hl1 | hl1
      · exact va_runS ⟨C.1, C.2.1, C.2.2.1, C.2.2.2.1, C.2.2.2.2.1⟩ hM ⟨callB_of np2 C.2.2.2.2.1 (goodB m1) rfl rfl rfl (C.2.2.2.2.1 _ m2) (C.2.2.2.2.1 _ hl1) ⟨m5, m6, d4⟩ ⟨Nat.le_trans d2 hfr, Nat.le_trans d3 hlo⟩, C.2.2.2.2.1 _ hstat⟩ ⟨Pc_blind, Pc_holds C hW⟩ rfl (by simp; omega) hlh.2.1 hstack (lv_room (by rw [cv_catS]; exact q4)) hd hfit
      · exact va_runSN ⟨C.1, C.2.1, C.2.2.1, C.2.2.2.1, C.2.2.2.2.1⟩ hM ⟨va_cnB np2 C.2.2.2.2.1 (goodB m1) rfl rfl rfl ((Cx.wd (mi := 0) C).2.1 _ hl1) (C.2.2.2.2.1 _ m2) ⟨m5, m6, d4⟩ ⟨Nat.le_trans d2 hfr, Nat.le_trans d3 hlo⟩, C.2.2.2.2.1 _ hstat, trivial⟩ ⟨Pc_blind, Pc_holds C hW⟩ rfl (by simp; omega) hlh.2.1 hstack (lv_room (by rw [cv_catS]; exact q4)) hd hfit
    · cases hc
  · split at hc
    · next i2 aux2 mi2 hh np2 r2 =>
      obtain ⟨c0, r0, n1, q1, q2, q3, q4, q5, q6, hz⟩ := clR_e hc
      cases hz
      simp only [okI, Bool.and_eq_true, decide_eq_true_eq] at hok
      obtain ⟨rfl, ⟨⟨⟨⟨hl, hdp⟩, hst⟩, hse⟩, hk10⟩, hcls⟩ := hok
      obtain ⟨d1, d2, d3, d4⟩ := depo_e hdp
      obtain ⟨⟨b1, b2⟩, b3⟩ := hbm _ d1
      obtain ⟨m1, m2, m3, m4, m5, m6⟩ := okM_e b2
      have hinst : Jvm.Cond.instanceMethod (mY mi') ∈ bigW := bigW_of (wdo_e hst) rfl
      have hsel : Jvm.Cond.selects (mY mi').cls (mY mi') (mY mi') ∈ bigW := bigW_of (wdo_e hse) rfl
      have hav : (List.take np2 st).reverse.length = np2 := by simp; omega
      have hc2 : ∀ v ∈ vR (c0 + 2) :: (List.take np2 st).reverse, cat2 v = false := fun v hv => by
        rcases List.mem_cons.mp hv with rfl | hv
        · rfl
        · exact q3 v (List.mem_reverse.mp hv)
      refine ⟨rfl, gs_call (a := ((vR (c0 + 2) :: (List.take np2 st).reverse).map (cv n0 b)).toArray) hlen (fun v hv => List.mem_of_mem_drop (i := np2) (by rw [q4]; exact List.mem_cons_of_mem _ hv)) (fun H locs lsA I hW hlh h1 h2 => ?_) kk⟩
      have hM := met_run IH hr b1 b3 b2 (by rw [List.length_cons, hav]; exact q1) hc2 (fun v hv => by
        rcases List.mem_cons.mp hv with rfl | hv
        · trivial
        · exact I.2.1 v (List.mem_of_mem_take (List.mem_reverse.mp hv))) I.2.2.1 I.2.2.2 l n0 b D cA
      have hstack : st.map (cv n0 b) = ((List.take np2 st).reverse.map (cv n0 b)).reverse ++ .ref (n0 + c0) :: rest.map (cv n0 b) := by
        have e : Value.ref (n0 + c0) :: rest.map (cv n0 b) = (List.drop np2 st).map (cv n0 b) := by rw [q4]; rfl
        rw [e, ← List.map_reverse, List.reverse_reverse, ← List.map_append, List.take_append_drop]
      have hfit : σ.1.length - k0 + (σ1.1.length - σ.1.length) ≤ R.cells ∧ slN σ.1 - s0 + (slN σ1.1 - slN σ.1) ≤ R.slots := by constructor <;> omega
      have he := wd_get (n0 := n0) (b := b) (cA := cA) q5
      rw [ce_ob hk10] at he
      have hrecv := va_recv C.2.2.2.2.2.1 hW.2.1 (cl_get _ hk10) he
      rw [hcls] at hrecv
      rcases lnko_e hl with hl1 | hl1
      · exact va_runV (C := (mY mi').cls) ⟨C.1, C.2.1, C.2.2.1, C.2.2.2.1, C.2.2.2.2.1⟩ hM ⟨callB_of np2 C.2.2.2.2.1 (goodB m1) rfl rfl rfl (C.2.2.2.2.1 _ m2) (C.2.2.2.2.1 _ hl1) ⟨m5, m6, d4⟩ ⟨Nat.le_trans d2 hfr, Nat.le_trans d3 hlo⟩, C.2.2.2.2.1 _ hinst, C.2.2.2.2.1 _ hsel⟩ ⟨Pc_blind, hrecv, Pc_holds C hW⟩ rfl (by simp; omega) hlh.2.1 hstack (lv_room (by rw [cv_catS]; exact q6)) hd hfit
      · exact va_runVN (C := (mY mi').cls) ⟨C.1, C.2.1, C.2.2.1, C.2.2.2.1, C.2.2.2.2.1⟩ hM ⟨va_cnB np2 C.2.2.2.2.1 (goodB m1) rfl rfl rfl ((Cx.wd (mi := 0) C).2.1 _ hl1) (C.2.2.2.2.1 _ m2) ⟨m5, m6, d4⟩ ⟨Nat.le_trans d2 hfr, Nat.le_trans d3 hlo⟩, C.2.2.2.2.1 _ hinst, C.2.2.2.2.1 _ hsel⟩ ⟨Pc_blind, hrecv, Pc_holds C hW⟩ rfl (by simp; omega) hlh.2.1 hstack (lv_room (by rw [cv_catS]; exact q6)) hd hfit
    · cases hc
  · split at hc
    · next i2 aux2 mi2 hh np2 r2 =>
      obtain ⟨c0, r0, n1, q1, q2, q3, q4, q5, q6, hz⟩ := clR_e hc
      cases hz
      simp only [okI, Bool.and_eq_true, decide_eq_true_eq] at hok
      obtain ⟨rfl, ⟨⟨⟨⟨⟨hl, hdp⟩, hst⟩, hini⟩, hnone⟩, hk10⟩, hcls⟩ := hok
      obtain ⟨d1, d2, d3, d4⟩ := depo_e hdp
      obtain ⟨⟨b1, b2⟩, b3⟩ := hbm _ d1
      obtain ⟨m1, m2, m3, m4, m5, m6⟩ := okM_e b2
      have hinst : Jvm.Cond.instanceMethod (mY mi') ∈ bigW := bigW_of (wdo_e hst) rfl
      have hav : (List.take np2 st).reverse.length = np2 := by simp; omega
      have hc2 : ∀ v ∈ vR (c0 + 2) :: (List.take np2 st).reverse, cat2 v = false := fun v hv => by
        rcases List.mem_cons.mp hv with rfl | hv
        · rfl
        · exact q3 v (List.mem_reverse.mp hv)
      refine ⟨rfl, gs_call (a := ((vR (c0 + 2) :: (List.take np2 st).reverse).map (cv n0 b)).toArray) hlen (fun v hv => List.mem_of_mem_drop (i := np2) (by rw [q4]; exact List.mem_cons_of_mem _ hv)) (fun H locs lsA I hW hlh h1 h2 => ?_) kk⟩
      have hM := met_run IH hr b1 b3 b2 (by rw [List.length_cons, hav]; exact q1) hc2 (fun v hv => by
        rcases List.mem_cons.mp hv with rfl | hv
        · trivial
        · exact I.2.1 v (List.mem_of_mem_take (List.mem_reverse.mp hv))) I.2.2.1 I.2.2.2 l n0 b D cA
      rw [hnone] at hM m1
      have hstack : st.map (cv n0 b) = ((List.take np2 st).reverse.map (cv n0 b)).reverse ++ .ref (n0 + c0) :: rest.map (cv n0 b) := by
        have e : Value.ref (n0 + c0) :: rest.map (cv n0 b) = (List.drop np2 st).map (cv n0 b) := by rw [q4]; rfl
        rw [e, ← List.map_reverse, List.reverse_reverse, ← List.map_append, List.take_append_drop]
      have hfit : σ.1.length - k0 + (σ1.1.length - σ.1.length) ≤ R.cells ∧ slN σ.1 - s0 + (slN σ1.1 - slN σ.1) ≤ R.slots := by constructor <;> omega
      rcases lnko_e hl with hl1 | hl1
      · exact va_runI ⟨C.1, C.2.1, C.2.2.1, C.2.2.2.1, C.2.2.2.2.1⟩ hM ⟨callB_of np2 C.2.2.2.2.1 (goodB m1) rfl rfl rfl (C.2.2.2.2.1 _ m2) (C.2.2.2.2.1 _ hl1) ⟨m5, m6, d4⟩ ⟨Nat.le_trans d2 hfr, Nat.le_trans d3 hlo⟩, hini, C.2.2.2.2.1 _ hinst⟩ ⟨Pc_blind, Pc_holds C hW⟩ rfl (by simp; omega) hlh.2.1 hstack (lv_room (by rw [cv_catS]; exact q6)) hd hfit
      · exact va_runIN ⟨C.1, C.2.1, C.2.2.1, C.2.2.2.1, C.2.2.2.2.1⟩ hM ⟨va_cnB np2 C.2.2.2.2.1 (goodB m1) rfl rfl rfl ((Cx.wd (mi := 0) C).2.1 _ hl1) (C.2.2.2.2.1 _ m2) ⟨m5, m6, d4⟩ ⟨Nat.le_trans d2 hfr, Nat.le_trans d3 hlo⟩, hini, C.2.2.2.2.1 _ hinst⟩ ⟨Pc_blind, Pc_holds C hW⟩ rfl (by simp; omega) hlh.2.1 hstack (lv_room (by rw [cv_catS]; exact q6)) hd hfit
    · cases hc
  · cases hc
theorem snd_all (sx : Int → Int) (L : Nat) (hbm : ∀ mi, mi < 227 → (okB mi = true ∧ okM mi = true) ∧ (ents mi).all (dcE mi) = true) : ∀ n, Snd sx L n := by
  intro n
  induction n with
  | zero => intro mi es fl ls st σ rv σ' h; simp [run] at h
  | succ n ih =>
    intro mi es fl ls st σ rv σ' h hes hdc hB hD p l e R s m args below meth c Q n0 b k0 s0 D cA C hin hfr hlo hcl hsl hrc
    cases es with
    | nil =>
      have h2 := ih mi _ _ _ _ _ _ _ h (blk_ok hB fl).1 (blk_dc hD fl) hB hD C hin hfr hlo hcl hsl hrc
      rw [(blk_ok hB fl).2] at h2
      exact h2
    | cons e0 es =>
      obtain ⟨pc, ln, ins, aux⟩ := e0
      simp only [okEs, Bool.and_eq_true, Bool.or_eq_true, decide_eq_true_eq] at hes
      obtain ⟨⟨hok, hnx⟩, hes⟩ := hes
      simp only [List.all_cons, Bool.and_eq_true] at hdc
      obtain ⟨hd0, hdc⟩ := hdc
      have hd : decode (mC mi) pc = .ok (ins, ln) := of_decide_eq_true hd0
      show GW p l e R s m args below meth c Q (mL mi) n0 b L sx D cA k0 s0 pc ls st σ
      simp only [run] at h
      split at h
      · next rv1 hr =>
        cases h
        obtain ⟨rfl, h2, rfl⟩ := rtV_e hr
        intro H locs lsA I hW hL hlh q1 q2 q3
        have hln : ln = 1 := by
          rcases rv with _ | v | v | r | u <;> simpa [okI, retIn] using hok
        subst hln
        exact hrc H locs lsA pc ⟨fun v hv => I.2.1 v (by rw [hv]; exact List.mem_singleton.mpr rfl), I.2.2.1, I.2.2.2⟩ hW hL q1 q2 hd h2
      · split at h
        · next mi' av rest hc =>
          split at h
          · next rv1 σ1 hr =>
            have hlen := run_len h
            have hnof : noF ins = false := by
              revert hc
              cases ins <;> first | (intro _; rfl) | (intro hc; simp [clV] at hc; done)
            have k2 := ih mi _ _ _ _ _ _ _ h hes hdc hB hD C hin hfr hlo hcl hsl hrc
            have h3 : nxp mi es fl = pc + ln := by
              rcases hnx with q | q
              · rw [hnof] at q; cases q
              · exact q
            have hl3 : ln = 3 := by
              revert hc hok
              cases ins <;> first | (intro _ hc; simp [clV] at hc; done) | (intro q _; simp only [okI, Bool.and_eq_true, decide_eq_true_eq] at q; exact q.1)
            rw [h3, hl3] at k2
            exact (call_run (np := 0) (i := 0) (h := 0) ih hbm C hd hok hc hr hfr hlo (by omega) (by omega) k2).2
          · cases h
        · split at h
          · next ls' st' σ1 hs =>
            have hlen := run_len h
            have k2 := ih mi _ _ _ _ _ _ _ h hes hdc hB hD C hin hfr hlo hcl hsl hrc
            refine stp_sound C hok hd0 hs hin hfr hlo (by omega) (by omega) ?_
            rw [if_pos rfl]
            rcases hnx with q | q
            · exfalso
              revert hs q
              cases ins <;> first | (intro _ q; simp [noF] at q; done) | (intro hs _; simp [stp, p1I, a1] at hs; done) | (intro hs _; simp only [stp, p1I, a1] at hs; (repeat' (split at hs)) <;> simp at hs; done)
            · dsimp only
              rw [← q]
              exact k2
          · next j ls' st' σ1 hs =>
            have hlen := run_len h
            have k2 := ih mi _ _ _ _ _ _ _ h (blk_ok hB j).1 (blk_dc hD j) hB hD C hin hfr hlo hcl hsl hrc
            rw [(blk_ok hB j).2] at k2
            refine stp_sound C hok hd0 hs hin hfr hlo (by omega) (by omega) ?_
            rw [if_neg (Nat.succ_ne_zero _)]
            exact k2
          · cases h
end SC
