theorem goodB {w : Jvm.Cond} (h : w ∈ bigW) : GoodIn bigW (w :: bigW) := fun v hv => by
  have hm : v ∈ bigW := by
    rcases List.mem_cons.mp hv with rfl | q
    · exact h
    · exact q
  exact ⟨hm, good_of_word (List.mem_filter.mp hm).2⟩
/-- what the tables of a state say -/
def CWd (D : va_G) (cA : Nat → ClassId) (U : State) : Prop := va_K D vwCl (ty5 cA) U ∧ (∀ w ∈ nstW, va_Nw w U) ∧ va_AO RX0 U ∧ va_AO RX1 U ∧ va_AO RX6 U
theorem nst_tab {w : Jvm.Cond} (h : w ∈ nstW) : w.onTables = true := by
  have := (List.mem_filter.mp h).2
  cases w <;> first | rfl | (simp [isNst] at this; done)
theorem CWd.same {D : va_G} {cA : Nat → ClassId} {u U : State} (h : u.vm = U.vm) (C : CWd D cA u) : CWd D cA U := by
  have ha : u.vm.Alike U.vm := by rw [h]; exact Vm.Alike.refl _
  exact ⟨C.1.moved ha, fun w hw => (C.2.1 w hw).same (nst_tab hw) h, C.2.2.1.moved ha, C.2.2.2.1.moved ha, C.2.2.2.2.moved ha⟩
theorem CWd.warm {D : va_G} {cA : Nat → ClassId} {u U : State} (h : u.WarmedH U.vm) (C : CWd D cA u) : CWd D cA U := by
  refine ⟨C.1.moved h.alike, fun w hw => ?_, C.2.2.1.moved h.alike, C.2.2.2.1.moved h.alike, C.2.2.2.2.moved h.alike⟩
  have h1 := C.2.1 w hw
  have h2 := (List.mem_filter.mp hw).2
  cases w <;> first | exact va_Nw.warmF h h1 | exact va_Nw.warmM h h1 | (simp [isNst] at h2; done)
theorem WH.moved {n0 b L : Nat} {sx : Int → Int} {D : va_G} {cA : Nat → ClassId} {u U : State} {σ : Sg} {H : Heap} (h : u.vm.Alike U.vm) (W0 : WH n0 b L sx D cA u σ H) : WH n0 b L sx D cA U σ H := ⟨W0.1, W0.2.1, W0.2.2.1.moved h, W0.2.2.2⟩
def pureI (rv : Option AV) (σ : Sg) : Prop := (∀ v, rv = some v → okv v) ∧ (∀ c j, inR (σ.2.2 c j)) ∧ ∀ q ∈ σ.1, q.2 ≤ 100000
def QcR (n0 b L : Nat) (sx : Int → Int) (D : va_G) (cA : Nat → ClassId) (σ' : Sg) (rv : Option AV) : Array Value → State → Outcome → State → Prop := fun _ _ o t => o = .returned (rv.map (cv n0 b)) ∧ WH n0 b L sx D cA t σ' t.heap ∧ pureI rv σ'
def retIn (rv : Option AV) : Instr := match rv with
  | none => .return_
  | some (.inl _) => .ireturn
  | some (.inr (.inl _)) => .lreturn
  | some (.inr (.inr _)) => .areturn
def rtOk (ret : Option FieldType) (rv : Option AV) : Prop := match ret, rv with
  | none, none => True
  | some .int, some (.inl _) => True
  | some .boolean, some (.inl v) => v = 0 ∨ v = 1
  | some .long, some (.inr (.inl _)) => True
  | some (.object _), some (.inr (.inr (.inl _))) => True
  | _, _ => False
theorem rtV_e {mi : Nat} {pc ln : Nat} {ins : Instr} {aux : List Nat} {st : List AV} {rv : Option AV} (h : rtV mi (pc, ln, ins, aux) st = some rv) : ins = retIn rv ∧ rtOk (mR mi) rv ∧ st = rv.toList := by
  unfold rtV at h
  (repeat' (split at h)) <;> first | (cases h; done) | (cases h; dsimp only at *; subst_vars; simp_all [retIn, rtOk]; done) | skip
section SR
variable {p : Program} {l : Launch} {e : Env} {R : Room} {s : State} {m : MethodId} {args : Array Value} {below : List Frame} {meth : Method} {c : Code} {Q : State → Prop} {cc : ByteArray} {nL : Nat} {own : String} {n0 b L k0 s0 : Nat} {sx : Int → Int} {D : va_G} {cA : Nat → ClassId}
/-- what the method's end asks for -/
def RCx (p : Program) (l : Launch) (e : Env) (R : Room) (s : State) (m : MethodId) (args : Array Value) (below : List Frame) (meth : Method) (c : Code) (Q : State → Prop) (n0 b L : Nat) (sx : Int → Int) (D : va_G) (cA : Nat → ClassId) (k0 s0 : Nat) (cc : ByteArray) (ret : Option FieldType) (rv : Option AV) (σ' : Sg) : Prop :=
  ∀ (H : Heap) (locs : List Loc) (lsA : Array Slot) (pc : Nat), pureI rv σ' → WH n0 b L sx D cA s σ' H → (∀ q ∈ locs, n0 ≤ q.base) → k0 ≤ σ'.1.length → s0 ≤ slN σ'.1 → decode cc pc = .ok (retIn rv, 1) → rtOk ret rv → W p l e R s m args below meth c H locs (σ'.1.length - k0) (slN σ'.1 - s0) Q (F0 m pc lsA (rv.toList.map (cv n0 b)))
/-- behind a call -/
theorem gs_call {pc : Nat} {ls st rest : List AV} {σ σ' : Sg} {rv : Option AV} {a : Array Value} (hlen : σ.1.length ≤ σ'.1.length ∧ slN σ.1 ≤ slN σ'.1) (hrest : ∀ v ∈ rest, v ∈ st)
    (hr : ∀ (H : Heap) (locs : List Loc) (lsA : Array Slot), INV ls st σ → WH n0 b L sx D cA s σ H → LH n0 b lsA nL ls → k0 ≤ σ.1.length → s0 ≤ slN σ.1 → va_Run p l e R s m args below meth c H locs (σ.1.length - k0) (slN σ.1 - s0) (σ'.1.length - σ.1.length) (slN σ'.1 - slN σ.1) (F0 m pc lsA (st.map (cv n0 b))) (rest.map (cv n0 b)) (QcR n0 b L sx D cA σ' rv a) (fun q => n0 ≤ q))
    (kk : GW p l e R s m args below meth c Q nL n0 b L sx D cA k0 s0 (pc + 3) ls (rv.toList ++ rest) σ') : GW p l e R s m args below meth c Q nL n0 b L sx D cA k0 s0 pc ls st σ := by
  intro H locs lsA I hW hL hl h1 h2 h3 T hT X
  obtain ⟨v, st₀, t, T', L', h0, X', hL', e1, e2, ⟨hv, hW', hp⟩, hst⟩ := hr H locs lsA I hW hl h1 h2 T hT X
  cases hv
  have ea : σ.1.length - k0 + (σ'.1.length - σ.1.length) = σ'.1.length - k0 := by omega
  have eb : slN σ.1 - s0 + (slN σ'.1 - slN σ.1) = slN σ'.1 - s0 := by omega
  rw [ea, eb] at X'
  have hW2 : WH n0 b L sx D cA s σ' T'.heap := by
    rw [e1]
    refine hW'.moved ?_
    rw [← e2]
    exact X'.warmed.alike.symm
  have hI : INV ls (rv.toList ++ rest) σ' := by
    refine ⟨I.1, fun w hw => ?_, hp.2.1, hp.2.2⟩
    rcases List.mem_append.mp hw with q | q
    · cases rv with
      | none => cases q
      | some z => rw [List.mem_singleton.mp q]; exact hp.1 z rfl
    · exact I.2.1 w (hrest w q)
  obtain ⟨t2, a1, b1⟩ := kk T'.heap (locs ++ L') lsA hI hW2 (fun q hq => by
    rcases List.mem_append.mp hq with h | h
    · exact hL q h
    · exact hL' q h) hl (by omega) (by omega) h3 T' rfl X'
  refine ⟨t2, hst t2 ?_, b1⟩
  have e : ((rv.map (cv n0 b)).toList ++ rest.map (cv n0 b)) = (rv.toList ++ rest).map (cv n0 b) := by cases rv <;> simp
  rw [e]
  exact a1
end SR
/-- the small machine's run is the machine's -/
def Snd (sx : Int → Int) (L n : Nat) : Prop := ∀ (mi : Nat) (es : List En) (fl : Nat) (ls st : List AV) (σ : Sg) (rv : Option AV) (σ' : Sg), run sx L n mi es fl ls st σ = some (rv, σ') → okEs mi es fl = true → es.all (dcE mi) = true → okB mi = true → (ents mi).all (dcE mi) = true →
  ∀ {p : Program} {l : Launch} {e : Env} {R : Room} {s : State} {m : MethodId} {args : Array Value} {below : List Frame} {meth : Method} {c : Code} {Q : State → Prop} {n0 b k0 s0 : Nat} {D : va_G} {cA : Nat → ClassId},
    Cx p s m args c (mC mi) (mL mi) (mO mi) D cA → ((mY mi).name = "<init>" → meth.name = "<init>") → mF mi ≤ R.frames → mW mi ≤ R.locals → σ'.1.length - k0 ≤ R.cells → slN σ'.1 - s0 ≤ R.slots →
    RCx p l e R s m args below meth c Q n0 b L sx D cA k0 s0 (mC mi) (mR mi) rv σ' → GW p l e R s m args below meth c Q (mL mi) n0 b L sx D cA k0 s0 (nxp mi es fl) ls st σ
theorem okB_e {mi : Nat} (h : okB mi = true) : spc mi 0 = 0 ∧ 0 < (bks mi).length ∧ ∀ bk ∈ bks mi, bk.1 ≠ [] ∧ okEs mi bk.1 bk.2 = true := by
  simp only [okB, Bool.and_eq_true, decide_eq_true_eq, List.all_eq_true] at h
  exact ⟨h.1.1, h.1.2, fun bk hb => h.2 bk hb⟩
theorem blk_cases (mi j : Nat) : blk mi j ∈ bks mi ∨ blk mi j = ([], 0) := by
  unfold blk
  rw [List.getD_eq_getElem?_getD]
  cases hj : (bks mi)[j]? with
  | none => exact Or.inr rfl
  | some q => exact Or.inl (List.mem_of_getElem? hj)
theorem blk_ok {mi : Nat} (h : okB mi = true) (j : Nat) : okEs mi (blk mi j).1 (blk mi j).2 = true ∧ nxp mi (blk mi j).1 (blk mi j).2 = spc mi j := by
  obtain ⟨h1, h2, h3⟩ := okB_e h
  rcases blk_cases mi j with hb | hb
  · obtain ⟨h4, h5⟩ := h3 _ hb
    refine ⟨h5, ?_⟩
    unfold nxp spc
    cases hq : (blk mi j).1 with
    | nil => exact absurd hq h4
    | cons e0 es => rfl
  · have e : spc mi j = 0 := by unfold spc; rw [hb]
    rw [hb, e]
    exact ⟨by simp [okEs, h2], h1⟩
theorem blk_dc {mi : Nat} (h : (ents mi).all (dcE mi) = true) (j : Nat) : (blk mi j).1.all (dcE mi) = true := by
  rcases blk_cases mi j with hb | hb
  · exact List.all_eq_true.mpr fun e0 he => List.all_eq_true.mp h e0 (List.mem_flatMap.mpr ⟨blk mi j, hb, he⟩)
  · rw [hb]; rfl
