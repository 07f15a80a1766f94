/-! one row an instruction, over the small machine's states -/
def Cx (p : Program) (s : State) (m : MethodId) (args : Array Value) (c : Code) (cc : ByteArray) (nL : Nat) (own : String) (D : va_G) (cA : Nat → ClassId) : Prop :=
  p.tables.exec = Jvm.exec ∧ c.code = cc ∧ c.maxLocals = nL ∧ s.vm.findClass own = some m.cls ∧ (∀ w ∈ bigW, w.before args s = true) ∧ va_K D vwCl (ty5 cA) s ∧ (∀ w ∈ nstW, w.before args s = true) ∧ va_AO RX0 s ∧ va_AO RX1 s ∧ va_AO RX6 s
def GW (p : Program) (l : Launch) (e : Env) (R : Room) (s : State) (m : MethodId) (args : Array Value) (below : List Frame) (meth : Method) (c : Code) (Q : State → Prop) (nL n0 b L : Nat) (sx : Int → Int) (D : va_G) (cA : Nat → ClassId) (k0 s0 : Nat) (pc : Nat) (ls st : List AV) (σ : Sg) : Prop :=
  ∀ (H : Heap) (locs : List Loc) (lsA : Array Slot), INV ls st σ → WH n0 b L sx D cA s σ H → (∀ q ∈ locs, n0 ≤ q.base) → LH n0 b lsA nL ls → k0 ≤ σ.1.length → s0 ≤ slN σ.1 → s.heap.size = n0 + k0 →
    W p l e R s m args below meth c H locs (σ.1.length - k0) (slN σ.1 - s0) Q (F0 m pc lsA (st.map (cv n0 b)))
theorem INV.pop {ls st : List AV} {v : AV} {σ : Sg} (I : INV ls (v :: st) σ) : INV ls st σ := ⟨I.1, fun w h => I.2.1 w (List.mem_cons_of_mem _ h), I.2.2⟩
theorem INV.push {ls st : List AV} {v : AV} {σ : Sg} (I : INV ls st σ) (h : okv v) : INV ls (v :: st) σ := ⟨I.1, fun w hw => by
  rcases List.mem_cons.mp hw with rfl | hw
  · exact h
  · exact I.2.1 w hw, I.2.2⟩
theorem INV.hd {ls st : List AV} {v : AV} {σ : Sg} (I : INV ls (v :: st) σ) : okv v := I.2.1 v List.mem_cons_self
theorem INV.set {ls st : List AV} {σ : Sg} (I : INV ls st σ) {i : Nat} {v : AV} (h : okv v) : INV (ls.set i v) st σ := ⟨mem_set_ok I.1 h, I.2⟩
theorem INV.at {ls st : List AV} {σ : Sg} (I : INV ls st σ) {i : Nat} {v : AV} (h : ls[i]? = some v) : okv v := I.1 v (List.mem_of_getElem? h)
theorem INV.mem {ls st : List AV} {K : List (Nat × Nat)} {R R' : Rfs} {M M' : Mem} (I : INV ls st (K, R, M)) (h : ∀ c j, inR (M' c j)) : INV ls st (K, R', M') := ⟨I.1, I.2.1, h, I.2.2.2⟩
section GS
variable {p : Program} {l : Launch} {e : Env} {R : Room} {s : State} {m : MethodId} {args : Array Value} {below : List Frame} {meth : Method} {c : Code} {Q : State → Prop} {cc : ByteArray} {nL : Nat} {own : String} {n0 b L k0 s0 : Nat} {sx : Int → Int} {D : va_G} {cA : Nat → ClassId}
theorem gs_of {pc pc' : Nat} {ls st ls' st' : List AV} {σ : Sg} (k : GW p l e R s m args below meth c Q nL n0 b L sx D cA k0 s0 pc' ls' st' σ) (hI : INV ls st σ → INV ls' st' σ)
    (h : ∀ (H : Heap) (locs : List Loc) (lsA : Array Slot) (cells slots : Nat), INV ls st σ → WH n0 b L sx D cA s σ H → LH n0 b lsA nL ls → (∀ lsB : Array Slot, LH n0 b lsB nL ls' → W p l e R s m args below meth c H locs cells slots Q (F0 m pc' lsB (st'.map (cv n0 b)))) → W p l e R s m args below meth c H locs cells slots Q (F0 m pc lsA (st.map (cv n0 b))))
    : GW p l e R s m args below meth c Q nL n0 b L sx D cA k0 s0 pc ls st σ := fun H locs lsA I hW hL hl h1 h2 h3 => h H locs lsA _ _ I hW hl fun lsB hB => k H locs lsB (hI I) hW hL hB h1 h2 h3
theorem gs_iconst (C : Cx p s m args c cc nL own D cA) {pc : Nat} {ls st : List AV} {σ : Sg} {n : Int} (hd : decode cc pc = .ok (.iconst n, 1)) (hr : inR n) (k : GW p l e R s m args below meth c Q nL n0 b L sx D cA k0 s0 (pc + 1) ls (vI n :: st) σ) : GW p l e R s m args below meth c Q nL n0 b L sx D cA k0 s0 pc ls st σ :=
  gs_of k (fun I => I.push hr) (fun _ _ lsA _ _ _ _ hl kk => lv_iconst C.1 C.2.1 hd rfl (kk lsA hl))
theorem gs_bipush (C : Cx p s m args c cc nL own D cA) {pc : Nat} {ls st : List AV} {σ : Sg} {n : Int} (hd : decode cc pc = .ok (.bipush n, 2)) (hr : -128 ≤ n ∧ n ≤ 127) (k : GW p l e R s m args below meth c Q nL n0 b L sx D cA k0 s0 (pc + 2) ls (vI n :: st) σ) : GW p l e R s m args below meth c Q nL n0 b L sx D cA k0 s0 pc ls st σ :=
  gs_of k (fun I => I.push (show inR n from ⟨by omega, by omega⟩)) (fun _ _ lsA _ _ _ _ hl kk => lv_bipush (v := Int32.ofInt n) C.1 C.2.1 hd (by
    apply Int32.toInt_inj.mp
    rw [n32 ⟨by omega, by omega⟩, Int8.toInt_toInt32, Int8.toInt_ofInt_of_le (by omega) (by omega)]) (kk lsA hl))
theorem gs_sipush (C : Cx p s m args c cc nL own D cA) {pc : Nat} {ls st : List AV} {σ : Sg} {n : Int} (hd : decode cc pc = .ok (.sipush n, 3)) (hr : -32768 ≤ n ∧ n ≤ 32767) (k : GW p l e R s m args below meth c Q nL n0 b L sx D cA k0 s0 (pc + 3) ls (vI n :: st) σ) : GW p l e R s m args below meth c Q nL n0 b L sx D cA k0 s0 pc ls st σ :=
  gs_of k (fun I => I.push (show inR n from ⟨by omega, by omega⟩)) (fun _ _ lsA _ _ _ _ hl kk => lv_sipush (v := Int32.ofInt n) C.1 C.2.1 hd (by
    apply Int32.toInt_inj.mp
    rw [n32 ⟨by omega, by omega⟩, Int16.toInt_toInt32, Int16.toInt_ofInt_of_le (by omega) (by omega)]) (kk lsA hl))
theorem gs_ldcw (C : Cx p s m args c cc nL own D cA) {pc index : Nat} {ls st : List AV} {σ : Sg} {n : Int} (hd : decode cc pc = .ok (.ldc_w index, 3)) (hw : Jvm.Cond.constant own index (Int32.ofInt n) ∈ bigW) (hr : inR n) (k : GW p l e R s m args below meth c Q nL n0 b L sx D cA k0 s0 (pc + 3) ls (vI n :: st) σ) : GW p l e R s m args below meth c Q nL n0 b L sx D cA k0 s0 pc ls st σ :=
  gs_of k (fun I => I.push hr) (fun _ _ lsA _ _ _ _ hl kk => lv_ldcw C.1 C.2.1 C.2.2.2.1 (C.2.2.2.2.1 _ hw) hd (kk lsA hl))
theorem gs_ldc2w (C : Cx p s m args c cc nL own D cA) {pc index : Nat} {ls st : List AV} {σ : Sg} {n : Int} (hd : decode cc pc = .ok (.ldc2_w index, 3)) (hw : Jvm.Cond.constantLong own index (Int64.ofInt n) ∈ bigW) (hr : inL n) (k : GW p l e R s m args below meth c Q nL n0 b L sx D cA k0 s0 (pc + 3) ls (vL n :: st) σ) : GW p l e R s m args below meth c Q nL n0 b L sx D cA k0 s0 pc ls st σ :=
  gs_of k (fun I => I.push hr) (fun _ _ lsA _ _ _ _ hl kk => lv_ldc2 C.1 C.2.1 C.2.2.2.1 (C.2.2.2.2.1 _ hw) hd (kk lsA hl))
theorem gs_iload (C : Cx p s m args c cc nL own D cA) {pc i : Nat} {ls st : List AV} {σ : Sg} {x : Int} (hd : decode cc pc = .ok (.iload i, 2)) (hx : ls[i]? = some (vI x)) (k : GW p l e R s m args below meth c Q nL n0 b L sx D cA k0 s0 (pc + 2) ls (vI x :: st) σ) : GW p l e R s m args below meth c Q nL n0 b L sx D cA k0 s0 pc ls st σ :=
  gs_of k (fun I => I.push (I.at hx)) (fun _ _ lsA _ _ _ _ hl kk => lv_iload C.1 C.2.1 hd (hl.get hx rfl) (kk lsA hl))
theorem gs_iload_n (C : Cx p s m args c cc nL own D cA) {pc : Nat} {i : Fin 4} {ls st : List AV} {σ : Sg} {x : Int} (hd : decode cc pc = .ok (.iload_n i, 1)) (hx : ls[i.val]? = some (vI x)) (k : GW p l e R s m args below meth c Q nL n0 b L sx D cA k0 s0 (pc + 1) ls (vI x :: st) σ) : GW p l e R s m args below meth c Q nL n0 b L sx D cA k0 s0 pc ls st σ :=
  gs_of k (fun I => I.push (I.at hx)) (fun _ _ lsA _ _ _ _ hl kk => lv_iload_n C.1 C.2.1 hd rfl (hl.get hx rfl) (kk lsA hl))
theorem gs_lload_n (C : Cx p s m args c cc nL own D cA) {pc : Nat} {i : Fin 4} {ls st : List AV} {σ : Sg} {x : Int} (hd : decode cc pc = .ok (.lload_n i, 1)) (hx : ls[i.val]? = some (vL x)) (k : GW p l e R s m args below meth c Q nL n0 b L sx D cA k0 s0 (pc + 1) ls (vL x :: st) σ) : GW p l e R s m args below meth c Q nL n0 b L sx D cA k0 s0 pc ls st σ :=
  gs_of k (fun I => I.push (I.at hx)) (fun _ _ lsA _ _ _ _ hl kk => lv_lload_n C.1 C.2.1 hd rfl (hl.get hx rfl) (kk lsA hl))
theorem cvR_pos (n0 b r : Nat) : ∃ x : Nat, cvR n0 b (r + 1) = .ref x := by
  cases r with
  | zero => exact ⟨b, rfl⟩
  | succ r => exact ⟨n0 + r, rfl⟩
theorem gs_aload (C : Cx p s m args c cc nL own D cA) {pc i r : Nat} {ls st : List AV} {σ : Sg} (hd : decode cc pc = .ok (.aload i, 2)) (hx : ls[i]? = some (vR (r + 1))) (k : GW p l e R s m args below meth c Q nL n0 b L sx D cA k0 s0 (pc + 2) ls (vR (r + 1) :: st) σ) : GW p l e R s m args below meth c Q nL n0 b L sx D cA k0 s0 pc ls st σ :=
  gs_of k (fun I => I.push trivial) (fun _ _ lsA _ _ _ _ hl kk => by
    obtain ⟨x, hx2⟩ := cvR_pos n0 b r
    have h1 := hl.get hx rfl
    have h2 := kk lsA hl
    simp only [List.map_cons, cv] at h1 h2 ⊢
    rw [hx2] at h1 h2
    exact lv_aload C.1 C.2.1 hd h1 h2)
theorem gs_aload_n (C : Cx p s m args c cc nL own D cA) {pc r : Nat} {i : Fin 4} {ls st : List AV} {σ : Sg} (hd : decode cc pc = .ok (.aload_n i, 1)) (hx : ls[i.val]? = some (vR (r + 1))) (k : GW p l e R s m args below meth c Q nL n0 b L sx D cA k0 s0 (pc + 1) ls (vR (r + 1) :: st) σ) : GW p l e R s m args below meth c Q nL n0 b L sx D cA k0 s0 pc ls st σ :=
  gs_of k (fun I => I.push trivial) (fun _ _ lsA _ _ _ _ hl kk => by
    obtain ⟨x, hx2⟩ := cvR_pos n0 b r
    have h1 := hl.get hx rfl
    have h2 := kk lsA hl
    simp only [List.map_cons, cv] at h1 h2 ⊢
    rw [hx2] at h1 h2
    exact lv_aload_n C.1 C.2.1 hd rfl h1 h2)
theorem gs_istore (C : Cx p s m args c cc nL own D cA) {pc i : Nat} {ls st : List AV} {σ : Sg} {x : Int} (hd : decode cc pc = .ok (.istore i, 2)) (hi : i < ls.length) (hc : cat2 (ls.getD (i - 1) vU) = false) (k : GW p l e R s m args below meth c Q nL n0 b L sx D cA k0 s0 (pc + 2) (ls.set i (vI x)) st σ) : GW p l e R s m args below meth c Q nL n0 b L sx D cA k0 s0 pc ls (vI x :: st) σ :=
  gs_of k (fun I => I.pop.set I.hd) (fun _ _ lsA _ _ _ _ hl kk => lv_istore (nL := nL) (lv := lst n0 b ls) C.1 C.2.1 hd hl.2 (by rw [← hl.1]; exact hi) rfl (fun lsB hB => kk lsB (hl.st1 (v := vI x) hc hi hB)))
theorem gs_istore_n (C : Cx p s m args c cc nL own D cA) {pc : Nat} {i : Fin 4} {ls st : List AV} {σ : Sg} {x : Int} (hd : decode cc pc = .ok (.istore_n i, 1)) (hi : i.val < ls.length) (hc : cat2 (ls.getD (i.val - 1) vU) = false) (k : GW p l e R s m args below meth c Q nL n0 b L sx D cA k0 s0 (pc + 1) (ls.set i.val (vI x)) st σ) : GW p l e R s m args below meth c Q nL n0 b L sx D cA k0 s0 pc ls (vI x :: st) σ :=
  gs_of k (fun I => I.pop.set I.hd) (fun _ _ lsA _ _ _ _ hl kk => lv_istore_n (nL := nL) (lv := lst n0 b ls) C.1 C.2.1 hd rfl hl.2 (by rw [← hl.1]; exact hi) rfl (fun lsB hB => kk lsB (hl.st1 (v := vI x) hc hi hB)))
theorem gs_lstore_n (C : Cx p s m args c cc nL own D cA) {pc : Nat} {i : Fin 4} {ls st : List AV} {σ : Sg} {x : Int} (hd : decode cc pc = .ok (.lstore_n i, 1)) (hi : i.val + 1 < ls.length) (hc : cat2 (ls.getD (i.val - 1) vU) = false) (k : GW p l e R s m args below meth c Q nL n0 b L sx D cA k0 s0 (pc + 1) ((ls.set i.val (vL x)).set (i.val + 1) vU) st σ) : GW p l e R s m args below meth c Q nL n0 b L sx D cA k0 s0 pc ls (vL x :: st) σ :=
  gs_of k (fun I => (I.pop.set I.hd).set trivial) (fun _ _ lsA _ _ _ _ hl kk => lv_lstore_n (nL := nL) (lv := lst n0 b ls) C.1 C.2.1 hd rfl hl.2 (by rw [← hl.1]; exact hi) rfl (fun lsB hB => kk lsB (hl.st2 (v := vL x) hc hi hB)))
theorem gs_astore (C : Cx p s m args c cc nL own D cA) {pc i x : Nat} {ls st : List AV} {σ : Sg} (hd : decode cc pc = .ok (.astore i, 2)) (hi : i < ls.length) (hc : cat2 (ls.getD (i - 1) vU) = false) (k : GW p l e R s m args below meth c Q nL n0 b L sx D cA k0 s0 (pc + 2) (ls.set i (vR (x + 2))) st σ) : GW p l e R s m args below meth c Q nL n0 b L sx D cA k0 s0 pc ls (vR (x + 2) :: st) σ :=
  gs_of k (fun I => I.pop.set I.hd) (fun _ _ lsA _ _ _ _ hl kk => lv_astore (nL := nL) (lv := lst n0 b ls) C.1 C.2.1 hd hl.2 (by rw [← hl.1]; exact hi) rfl (fun lsB hB => kk lsB (hl.st1 (v := vR (x + 2)) hc hi hB)))
theorem gs_astore_n (C : Cx p s m args c cc nL own D cA) {pc x : Nat} {i : Fin 4} {ls st : List AV} {σ : Sg} (hd : decode cc pc = .ok (.astore_n i, 1)) (hi : i.val < ls.length) (hc : cat2 (ls.getD (i.val - 1) vU) = false) (k : GW p l e R s m args below meth c Q nL n0 b L sx D cA k0 s0 (pc + 1) (ls.set i.val (vR (x + 2))) st σ) : GW p l e R s m args below meth c Q nL n0 b L sx D cA k0 s0 pc ls (vR (x + 2) :: st) σ :=
  gs_of k (fun I => I.pop.set I.hd) (fun _ _ lsA _ _ _ _ hl kk => lv_astore_n (nL := nL) (lv := lst n0 b ls) C.1 C.2.1 hd rfl hl.2 (by rw [← hl.1]; exact hi) rfl (fun lsB hB => kk lsB (hl.st1 (v := vR (x + 2)) hc hi hB)))
theorem gs_iinc (C : Cx p s m args c cc nL own D cA) {pc i : Nat} {n : Int} {ls st : List AV} {σ : Sg} {x : Int} (hd : decode cc pc = .ok (.iinc i n, 3)) (hx : ls[i]? = some (vI x)) (hr : inR (x + n)) (hc : cat2 (ls.getD (i - 1) vU) = false) (k : GW p l e R s m args below meth c Q nL n0 b L sx D cA k0 s0 (pc + 3) (ls.set i (vI (x + n))) st σ) : GW p l e R s m args below meth c Q nL n0 b L sx D cA k0 s0 pc ls st σ :=
  gs_of k (fun I => I.set hr) (fun _ _ lsA _ _ _ _ hl kk => by
    have hi : i < ls.length := (List.getElem?_eq_some_iff.mp hx).1
    obtain ⟨q, hq⟩ := hl.place hx rfl
    exact lv_iinc (nL := nL) (lv := lst n0 b ls) (v := Int32.ofInt (x + n)) C.1 C.2.1 hd hl.2 hq (Int32.ofInt_add x n).symm (by rw [← hl.1]; exact hi) rfl (fun lsB hB => kk lsB (hl.st1 (v := vI (x + n)) hc hi hB)))
theorem gs_iadd (C : Cx p s m args c cc nL own D cA) {pc : Nat} {ls st : List AV} {σ : Sg} {x y : Int} (hd : decode cc pc = .ok (.iadd, 1)) (hr : inR (x + y)) (k : GW p l e R s m args below meth c Q nL n0 b L sx D cA k0 s0 (pc + 1) ls (vI (x + y) :: st) σ) : GW p l e R s m args below meth c Q nL n0 b L sx D cA k0 s0 pc ls (vI y :: vI x :: st) σ :=
  gs_of k (fun I => I.pop.pop.push hr) (fun _ _ lsA _ _ _ _ hl kk => lv_iadd C.1 C.2.1 hd (by rw [← Int32.ofInt_add]; exact kk lsA hl))
theorem gs_isub (C : Cx p s m args c cc nL own D cA) {pc : Nat} {ls st : List AV} {σ : Sg} {x y : Int} (hd : decode cc pc = .ok (.isub, 1)) (hr : inR (x - y)) (k : GW p l e R s m args below meth c Q nL n0 b L sx D cA k0 s0 (pc + 1) ls (vI (x - y) :: st) σ) : GW p l e R s m args below meth c Q nL n0 b L sx D cA k0 s0 pc ls (vI y :: vI x :: st) σ :=
  gs_of k (fun I => I.pop.pop.push hr) (fun _ _ lsA _ _ _ _ hl kk => lv_isub C.1 C.2.1 hd (by rw [← Int32.ofInt_sub]; exact kk lsA hl))
theorem gs_imul (C : Cx p s m args c cc nL own D cA) {pc : Nat} {ls st : List AV} {σ : Sg} {x y : Int} (hd : decode cc pc = .ok (.imul, 1)) (hr : inR (x * y)) (k : GW p l e R s m args below meth c Q nL n0 b L sx D cA k0 s0 (pc + 1) ls (vI (x * y) :: st) σ) : GW p l e R s m args below meth c Q nL n0 b L sx D cA k0 s0 pc ls (vI y :: vI x :: st) σ :=
  gs_of k (fun I => I.pop.pop.push hr) (fun _ _ lsA _ _ _ _ hl kk => lv_imul C.1 C.2.1 hd (by rw [← Int32.ofInt_mul]; exact kk lsA hl))
theorem nz32 {y : Int} (hy : 0 < y) (h : inR y) : ¬ Int32.ofInt y = 0 := fun q => by
  have := (n32_eq (y := 0) h ⟨by omega, by omega⟩).mp q
  omega
theorem gs_idiv (C : Cx p s m args c cc nL own D cA) {pc : Nat} {ls st : List AV} {σ : Sg} {x y : Int} (hd : decode cc pc = .ok (.idiv, 1)) (hx : 0 ≤ x) (hy : 0 < y) (k : GW p l e R s m args below meth c Q nL n0 b L sx D cA k0 s0 (pc + 1) ls (vI (x / y) :: st) σ) : GW p l e R s m args below meth c Q nL n0 b L sx D cA k0 s0 pc ls (vI y :: vI x :: st) σ :=
  gs_of k (fun I => I.pop.pop.push (show inR (x / y) from by
    have h1 : inR x := I.pop.hd
    have h2 := Int.ediv_nonneg hx (Int.le_of_lt hy)
    have h3 := Int.ediv_le_self y hx
    have := h1.2
    exact ⟨by omega, by omega⟩)) (fun _ _ lsA _ _ I _ hl kk => lv_idiv C.1 C.2.1 hd (nz32 hy I.hd) (by rw [n32_div hx hy I.pop.hd I.hd]; exact kk lsA hl))
theorem gs_irem (C : Cx p s m args c cc nL own D cA) {pc : Nat} {ls st : List AV} {σ : Sg} {x y : Int} (hd : decode cc pc = .ok (.irem, 1)) (hx : 0 ≤ x) (hy : 0 < y) (k : GW p l e R s m args below meth c Q nL n0 b L sx D cA k0 s0 (pc + 1) ls (vI (x % y) :: st) σ) : GW p l e R s m args below meth c Q nL n0 b L sx D cA k0 s0 pc ls (vI y :: vI x :: st) σ :=
  gs_of k (fun I => I.pop.pop.push (show inR (x % y) from by
    have h1 : inR y := I.hd
    have h2 := Int.emod_nonneg x (show y ≠ 0 by omega)
    have h3 := Int.emod_lt_of_pos x hy
    have := h1.2
    exact ⟨by omega, by omega⟩)) (fun _ _ lsA _ _ I _ hl kk => lv_irem C.1 C.2.1 hd (nz32 hy I.hd) (by rw [n32_mod hx hy I.pop.hd I.hd]; exact kk lsA hl))
theorem gs_ineg (C : Cx p s m args c cc nL own D cA) {pc : Nat} {ls st : List AV} {σ : Sg} {x : Int} (hd : decode cc pc = .ok (.ineg, 1)) (hr : inR (-x)) (k : GW p l e R s m args below meth c Q nL n0 b L sx D cA k0 s0 (pc + 1) ls (vI (-x) :: st) σ) : GW p l e R s m args below meth c Q nL n0 b L sx D cA k0 s0 pc ls (vI x :: st) σ :=
  gs_of k (fun I => I.pop.push hr) (fun _ _ lsA _ _ _ _ hl kk => lv_ineg C.1 C.2.1 hd (by rw [← Int32.ofInt_neg]; exact kk lsA hl))
theorem gs_iand (C : Cx p s m args c cc nL own D cA) {pc : Nat} {ls st : List AV} {σ : Sg} {x y : Int} (hd : decode cc pc = .ok (.iand, 1)) (k : GW p l e R s m args below meth c Q nL n0 b L sx D cA k0 s0 (pc + 1) ls (vI (iAnd x y) :: st) σ) : GW p l e R s m args below meth c Q nL n0 b L sx D cA k0 s0 pc ls (vI y :: vI x :: st) σ :=
  gs_of k (fun I => I.pop.pop.push (r32 _)) (fun _ _ lsA _ _ _ _ hl kk => lv_iand C.1 C.2.1 hd (by have h := kk lsA hl; simp only [List.map_cons, cv, iAnd, Int32.ofInt_toInt] at h; exact h))
theorem gs_ior (C : Cx p s m args c cc nL own D cA) {pc : Nat} {ls st : List AV} {σ : Sg} {x y : Int} (hd : decode cc pc = .ok (.ior, 1)) (k : GW p l e R s m args below meth c Q nL n0 b L sx D cA k0 s0 (pc + 1) ls (vI (iOr x y) :: st) σ) : GW p l e R s m args below meth c Q nL n0 b L sx D cA k0 s0 pc ls (vI y :: vI x :: st) σ :=
  gs_of k (fun I => I.pop.pop.push (r32 _)) (fun _ _ lsA _ _ _ _ hl kk => lv_ior C.1 C.2.1 hd (by have h := kk lsA hl; simp only [List.map_cons, cv, iOr, Int32.ofInt_toInt] at h; exact h))
theorem gs_ixor (C : Cx p s m args c cc nL own D cA) {pc : Nat} {ls st : List AV} {σ : Sg} {x y : Int} (hd : decode cc pc = .ok (.ixor, 1)) (k : GW p l e R s m args below meth c Q nL n0 b L sx D cA k0 s0 (pc + 1) ls (vI (iXor x y) :: st) σ) : GW p l e R s m args below meth c Q nL n0 b L sx D cA k0 s0 pc ls (vI y :: vI x :: st) σ :=
  gs_of k (fun I => I.pop.pop.push (r32 _)) (fun _ _ lsA _ _ _ _ hl kk => lv_ixor C.1 C.2.1 hd (by have h := kk lsA hl; simp only [List.map_cons, cv, iXor, Int32.ofInt_toInt] at h; exact h))
theorem gs_ishl (C : Cx p s m args c cc nL own D cA) {pc : Nat} {ls st : List AV} {σ : Sg} {x y : Int} (hd : decode cc pc = .ok (.ishl, 1)) (hx : 0 ≤ x) (hy : 0 ≤ y) (hy2 : y ≤ 30) (h : x * 2 ^ y.toNat ≤ 2147483647) (k : GW p l e R s m args below meth c Q nL n0 b L sx D cA k0 s0 (pc + 1) ls (vI (x * 2 ^ y.toNat) :: st) σ) : GW p l e R s m args below meth c Q nL n0 b L sx D cA k0 s0 pc ls (vI y :: vI x :: st) σ :=
  gs_of k (fun I => I.pop.pop.push (show inR _ from ⟨by have := Int.mul_nonneg hx (Int.le_of_lt (show (0 : Int) < 2 ^ y.toNat from Int.pow_pos (by omega))); omega, by omega⟩)) (fun _ _ lsA _ _ _ _ hl kk => lv_ishl C.1 C.2.1 hd (by rw [n32_shl hx hy hy2 h]; exact kk lsA hl))
theorem gs_ishr (C : Cx p s m args c cc nL own D cA) {pc : Nat} {ls st : List AV} {σ : Sg} {x y : Int} (hd : decode cc pc = .ok (.ishr, 1)) (hx : 0 ≤ x) (hy : 0 ≤ y) (hy2 : y ≤ 30) (k : GW p l e R s m args below meth c Q nL n0 b L sx D cA k0 s0 (pc + 1) ls (vI (x / 2 ^ y.toNat) :: st) σ) : GW p l e R s m args below meth c Q nL n0 b L sx D cA k0 s0 pc ls (vI y :: vI x :: st) σ :=
  gs_of k (fun I => I.pop.pop.push (div_in _ hx I.pop.hd)) (fun _ _ lsA _ _ I _ hl kk => lv_ishr C.1 C.2.1 hd (by rw [n32_shr hx hy hy2 I.pop.hd]; exact kk lsA hl))
theorem gs_iushr (C : Cx p s m args c cc nL own D cA) {pc : Nat} {ls st : List AV} {σ : Sg} {x y : Int} (hd : decode cc pc = .ok (.iushr, 1)) (hx : 0 ≤ x) (hy : 0 ≤ y) (hy2 : y ≤ 30) (k : GW p l e R s m args below meth c Q nL n0 b L sx D cA k0 s0 (pc + 1) ls (vI (x / 2 ^ y.toNat) :: st) σ) : GW p l e R s m args below meth c Q nL n0 b L sx D cA k0 s0 pc ls (vI y :: vI x :: st) σ :=
  gs_of k (fun I => I.pop.pop.push (div_in _ hx I.pop.hd)) (fun _ _ lsA _ _ I _ hl kk => lv_iushr C.1 C.2.1 hd (n32_ushr hx hy hy2 I.pop.hd) (kk lsA hl))
theorem gs_i2l (C : Cx p s m args c cc nL own D cA) {pc : Nat} {ls st : List AV} {σ : Sg} {x : Int} (hd : decode cc pc = .ok (.i2l, 1)) (k : GW p l e R s m args below meth c Q nL n0 b L sx D cA k0 s0 (pc + 1) ls (vL x :: st) σ) : GW p l e R s m args below meth c Q nL n0 b L sx D cA k0 s0 pc ls (vI x :: st) σ :=
  gs_of k (fun I => I.pop.push (show inL x from by have h : inR x := I.hd; have := h.1; have := h.2; exact ⟨by omega, by omega⟩)) (fun _ _ lsA _ _ I _ hl kk => lv_i2l (v := Int64.ofInt x) C.1 C.2.1 hd (by
    have h : inR x := I.hd
    have h1 := h.1
    have h2 := h.2
    apply Int64.toInt_inj.mp
    rw [Int32.toInt_toInt64, n32 h, n64 ⟨by omega, by omega⟩]) (kk lsA hl))
theorem gs_i2b (C : Cx p s m args c cc nL own D cA) {pc : Nat} {ls st : List AV} {σ : Sg} {x : Int} (hd : decode cc pc = .ok (.i2b, 1)) (k : GW p l e R s m args below meth c Q nL n0 b L sx D cA k0 s0 (pc + 1) ls (vI (i2B x) :: st) σ) : GW p l e R s m args below meth c Q nL n0 b L sx D cA k0 s0 pc ls (vI x :: st) σ :=
  gs_of k (fun I => I.pop.push (r32 _)) (fun _ _ lsA _ _ _ _ hl kk => lv_i2b (v := Int32.ofInt (i2B x)) C.1 C.2.1 hd (by unfold i2B; rw [Int32.ofInt_toInt]) (kk lsA hl))
theorem gs_i2s (C : Cx p s m args c cc nL own D cA) {pc : Nat} {ls st : List AV} {σ : Sg} {x : Int} (hd : decode cc pc = .ok (.i2s, 1)) (k : GW p l e R s m args below meth c Q nL n0 b L sx D cA k0 s0 (pc + 1) ls (vI (i2S x) :: st) σ) : GW p l e R s m args below meth c Q nL n0 b L sx D cA k0 s0 pc ls (vI x :: st) σ :=
  gs_of k (fun I => I.pop.push (r32 _)) (fun _ _ lsA _ _ _ _ hl kk => lv_i2s (v := Int32.ofInt (i2S x)) C.1 C.2.1 hd (by unfold i2S; rw [Int32.ofInt_toInt]) (kk lsA hl))
theorem gs_ladd (C : Cx p s m args c cc nL own D cA) {pc : Nat} {ls st : List AV} {σ : Sg} {x y : Int} (hd : decode cc pc = .ok (.ladd, 1)) (k : GW p l e R s m args below meth c Q nL n0 b L sx D cA k0 s0 (pc + 1) ls (vL (lAdd x y) :: st) σ) : GW p l e R s m args below meth c Q nL n0 b L sx D cA k0 s0 pc ls (vL y :: vL x :: st) σ :=
  gs_of k (fun I => I.pop.pop.push (r64 _)) (fun _ _ lsA _ _ _ _ hl kk => lv_ladd C.1 C.2.1 hd (by have h := kk lsA hl; simp only [List.map_cons, cv, lAdd, Int64.ofInt_toInt] at h; exact h))
theorem gs_lmul (C : Cx p s m args c cc nL own D cA) {pc : Nat} {ls st : List AV} {σ : Sg} {x y : Int} (hd : decode cc pc = .ok (.lmul, 1)) (k : GW p l e R s m args below meth c Q nL n0 b L sx D cA k0 s0 (pc + 1) ls (vL (lMul x y) :: st) σ) : GW p l e R s m args below meth c Q nL n0 b L sx D cA k0 s0 pc ls (vL y :: vL x :: st) σ :=
  gs_of k (fun I => I.pop.pop.push (r64 _)) (fun _ _ lsA _ _ _ _ hl kk => lv_lmul C.1 C.2.1 hd (by have h := kk lsA hl; simp only [List.map_cons, cv, lMul, Int64.ofInt_toInt] at h; exact h))
theorem gs_lcmp (C : Cx p s m args c cc nL own D cA) {pc : Nat} {ls st : List AV} {σ : Sg} {x y : Int} (hd : decode cc pc = .ok (.lcmp, 1)) (k : GW p l e R s m args below meth c Q nL n0 b L sx D cA k0 s0 (pc + 1) ls (vI (if x < y then -1 else if x = y then 0 else 1) :: st) σ) : GW p l e R s m args below meth c Q nL n0 b L sx D cA k0 s0 pc ls (vL y :: vL x :: st) σ :=
  gs_of k (fun I => I.pop.pop.push (show inR _ from by (repeat' split) <;> exact ⟨by omega, by omega⟩)) (fun _ _ lsA _ _ I _ hl kk => W.lcmp C.1 C.2.1 hd (by
    have h := kk lsA hl
    have hx : inL x := I.pop.hd
    have hy : inL y := I.hd
    have e : lg_cmp (Int64.ofInt x) (Int64.ofInt y) = Int32.ofInt (if x < y then -1 else if x = y then 0 else 1) := by
      unfold lg_cmp
      simp only [gt_iff_lt, Int64.lt_iff_toInt_lt, ← Int64.toInt_inj, n64 hx, n64 hy]
      by_cases h1 : x < y
      · rw [if_neg (by omega), if_neg (by omega), if_pos h1]; rfl
      · by_cases h2 : x = y
        · rw [if_neg (by omega), if_pos h2, if_neg h1, if_pos h2]; rfl
        · rw [if_pos (by omega), if_neg h1, if_neg h2]; rfl
    rw [e]
    exact h))
theorem gs_dup (C : Cx p s m args c cc nL own D cA) {pc : Nat} {ls st : List AV} {σ : Sg} {v : AV} (hd : decode cc pc = .ok (.dup, 1)) (hc : cat2 v = false) (k : GW p l e R s m args below meth c Q nL n0 b L sx D cA k0 s0 (pc + 1) ls (v :: v :: st) σ) : GW p l e R s m args below meth c Q nL n0 b L sx D cA k0 s0 pc ls (v :: st) σ :=
  gs_of k (fun I => I.push I.hd) (fun _ _ lsA _ _ _ _ hl kk => lv_dup C.1 C.2.1 hd (cv_cat hc) (kk lsA hl))
theorem gs_dup2 (C : Cx p s m args c cc nL own D cA) {pc : Nat} {ls st : List AV} {σ : Sg} {v w : AV} (hd : decode cc pc = .ok (.dup2, 1)) (hc : cat2 v = false) (hc2 : cat2 w = false) (k : GW p l e R s m args below meth c Q nL n0 b L sx D cA k0 s0 (pc + 1) ls (v :: w :: v :: w :: st) σ) : GW p l e R s m args below meth c Q nL n0 b L sx D cA k0 s0 pc ls (v :: w :: st) σ :=
  gs_of k (fun I => (I.push I.pop.hd).push I.hd) (fun _ _ lsA _ _ _ _ hl kk => lv_dup2_11 C.1 C.2.1 hd (cv_cat hc) (cv_cat hc2) (kk lsA hl))
theorem gs_goto (C : Cx p s m args c cc nL own D cA) {pc tgt : Nat} {off : Int} {ls st : List AV} {σ : Sg} (hd : decode cc pc = .ok (.goto off, 3)) (ht : (pc : Int) + off = (tgt : Int)) (k : GW p l e R s m args below meth c Q nL n0 b L sx D cA k0 s0 tgt ls st σ) : GW p l e R s m args below meth c Q nL n0 b L sx D cA k0 s0 pc ls st σ :=
  gs_of k (fun I => I) (fun _ _ lsA _ _ _ _ hl kk => lv_goto C.1 C.2.1 hd ht (kk lsA hl))
theorem gs_if2 {pc t1 t2 : Nat} {ls st ls' st' : List AV} {σ : Sg} {P : Prop} (hI : INV ls st σ → INV ls' st' σ)
    (h : ∀ (H : Heap) (locs : List Loc) (lsA : Array Slot) (cells slots : Nat), INV ls st σ → LH n0 b lsA nL ls → (P → W p l e R s m args below meth c H locs cells slots Q (F0 m t1 lsA (st'.map (cv n0 b)))) → (¬ P → W p l e R s m args below meth c H locs cells slots Q (F0 m t2 lsA (st'.map (cv n0 b)))) → W p l e R s m args below meth c H locs cells slots Q (F0 m pc lsA (st.map (cv n0 b))))
    (hls : ls' = ls) (k1 : P → GW p l e R s m args below meth c Q nL n0 b L sx D cA k0 s0 t1 ls' st' σ) (k2 : ¬ P → GW p l e R s m args below meth c Q nL n0 b L sx D cA k0 s0 t2 ls' st' σ) : GW p l e R s m args below meth c Q nL n0 b L sx D cA k0 s0 pc ls st σ := fun H locs lsA I hW hL hl h1 h2 h3 => by
  subst hls
  exact h H locs lsA _ _ I hl (fun q => k1 q H locs lsA (hI I) hW hL hl h1 h2 h3) (fun q => k2 q H locs lsA (hI I) hW hL hl h1 h2 h3)
theorem z32 : inR 0 := ⟨by omega, by omega⟩
theorem gs_if (C : Cx p s m args c cc nL own D cA) {pc tgt : Nat} {off : Int} {ls st : List AV} {σ : Sg} {x : Int} {c0 : Jvm.ClassFile.Cond} (hd : decode cc pc = .ok (.ifCond c0 off, 3)) (ht : (pc : Int) + off = (tgt : Int)) (k1 : cnd c0 x 0 = true → GW p l e R s m args below meth c Q nL n0 b L sx D cA k0 s0 tgt ls st σ) (k2 : ¬ cnd c0 x 0 = true → GW p l e R s m args below meth c Q nL n0 b L sx D cA k0 s0 (pc + 3) ls st σ) : GW p l e R s m args below meth c Q nL n0 b L sx D cA k0 s0 pc ls (vI x :: st) σ := by
  refine gs_if2 (fun I => I.pop) (fun H locs lsA cells slots I hl q1 q2 => ?_) rfl k1 k2
  have hx : inR x := I.hd
  cases c0
  · exact lv_if_eq C.1 C.2.1 hd ht (fun z => q1 (by simpa [cnd] using (n32_eq hx z32).mp z)) (fun z => q2 (by simpa [cnd] using fun z2 => z ((n32_eq hx z32).mpr z2)))
  · exact lv_if_ne C.1 C.2.1 hd ht (fun z => q1 (by simpa [cnd] using fun z2 => z ((n32_eq hx z32).mpr z2))) (fun z => q2 (by simpa [cnd] using (n32_eq hx z32).mp z))
  · exact lv_if_lt C.1 C.2.1 hd ht (fun z => q1 (by simpa [cnd] using (n32_lt hx z32).mp z)) (fun z => q2 (by have := fun z2 => z ((n32_lt hx z32).mpr z2); simpa [cnd] using this))
  · exact lv_if_ge C.1 C.2.1 hd ht (fun z => q1 (by simpa [cnd] using (n32_le z32 hx).mp z)) (fun z => q2 (by have := fun z2 => z ((n32_le z32 hx).mpr z2); simpa [cnd] using this))
  · exact lv_if_gt C.1 C.2.1 hd ht (fun z => q1 (by simpa [cnd] using (n32_lt z32 hx).mp z)) (fun z => q2 (by have := fun z2 => z ((n32_lt z32 hx).mpr z2); simpa [cnd] using this))
  · exact lv_if_le C.1 C.2.1 hd ht (fun z => q1 (by simpa [cnd] using (n32_le hx z32).mp z)) (fun z => q2 (by have := fun z2 => z ((n32_le hx z32).mpr z2); simpa [cnd] using this))
theorem gs_icmp (C : Cx p s m args c cc nL own D cA) {pc tgt : Nat} {off : Int} {ls st : List AV} {σ : Sg} {x y : Int} {c0 : Jvm.ClassFile.Cond} (hd : decode cc pc = .ok (.if_icmp c0 off, 3)) (ht : (pc : Int) + off = (tgt : Int)) (k1 : cnd c0 x y = true → GW p l e R s m args below meth c Q nL n0 b L sx D cA k0 s0 tgt ls st σ) (k2 : ¬ cnd c0 x y = true → GW p l e R s m args below meth c Q nL n0 b L sx D cA k0 s0 (pc + 3) ls st σ) : GW p l e R s m args below meth c Q nL n0 b L sx D cA k0 s0 pc ls (vI y :: vI x :: st) σ := by
  refine gs_if2 (fun I => I.pop.pop) (fun H locs lsA cells slots I hl q1 q2 => ?_) rfl k1 k2
  have hx : inR x := I.pop.hd
  have hy : inR y := I.hd
  cases c0
  · exact lv_icmp_eq C.1 C.2.1 hd ht (fun z => q1 (by simpa [cnd] using (n32_eq hx hy).mp z)) (fun z => q2 (by simpa [cnd] using fun z2 => z ((n32_eq hx hy).mpr z2)))
  · exact lv_icmp_ne C.1 C.2.1 hd ht (fun z => q1 (by simpa [cnd] using fun z2 => z ((n32_eq hx hy).mpr z2))) (fun z => q2 (by simpa [cnd] using (n32_eq hx hy).mp z))
  · exact lv_icmp_lt C.1 C.2.1 hd ht (fun z => q1 (by simpa [cnd] using (n32_lt hx hy).mp z)) (fun z => q2 (by have := fun z2 => z ((n32_lt hx hy).mpr z2); simpa [cnd] using this))
  · exact lv_icmp_ge C.1 C.2.1 hd ht (fun z => q1 (by simpa [cnd] using (n32_le hy hx).mp z)) (fun z => q2 (by have := fun z2 => z ((n32_le hy hx).mpr z2); simpa [cnd] using this))
  · exact lv_icmp_gt C.1 C.2.1 hd ht (fun z => q1 (by simpa [cnd] using (n32_lt hy hx).mp z)) (fun z => q2 (by have := fun z2 => z ((n32_lt hy hx).mpr z2); simpa [cnd] using this))
  · exact lv_icmp_le C.1 C.2.1 hd ht (fun z => q1 (by simpa [cnd] using (n32_le hx hy).mp z)) (fun z => q2 (by have := fun z2 => z ((n32_le hx hy).mpr z2); simpa [cnd] using this))
theorem gs_tswIn (C : Cx p s m args c cc nL own D cA) {pc tgt len : Nat} {off dflt lo hi : Int} {offs : Array Int} {ls st : List AV} {σ : Sg} {x : Int} (hd : decode cc pc = .ok (.tableswitch dflt lo hi offs, len)) (h1 : lo ≤ x) (h2 : x ≤ hi) (ho : offs[(x - lo).toNat]? = some off) (ht : (pc : Int) + off = (tgt : Int)) (k : GW p l e R s m args below meth c Q nL n0 b L sx D cA k0 s0 tgt ls st σ) : GW p l e R s m args below meth c Q nL n0 b L sx D cA k0 s0 pc ls (vI x :: st) σ :=
  gs_of k (fun I => I.pop) (fun _ _ lsA _ _ I _ hl kk => lv_tableIn C.1 C.2.1 hd (by rw [n32 I.hd]; omega) (by rw [n32 I.hd]; omega) (by rw [n32 I.hd]; exact ho) ht (kk lsA hl))
theorem gs_tswOut (C : Cx p s m args c cc nL own D cA) {pc tgt len : Nat} {dflt lo hi : Int} {offs : Array Int} {ls st : List AV} {σ : Sg} {x : Int} (hd : decode cc pc = .ok (.tableswitch dflt lo hi offs, len)) (h : x < lo ∨ hi < x) (ht : (pc : Int) + dflt = (tgt : Int)) (k : GW p l e R s m args below meth c Q nL n0 b L sx D cA k0 s0 tgt ls st σ) : GW p l e R s m args below meth c Q nL n0 b L sx D cA k0 s0 pc ls (vI x :: st) σ :=
  gs_of k (fun I => I.pop) (fun _ _ lsA _ _ I _ hl kk => lv_tableOut C.1 C.2.1 hd (by rw [n32 I.hd]; exact h) ht (kk lsA hl))
theorem gs_lsw (C : Cx p s m args c cc nL own D cA) {pc tgt len : Nat} {off dflt : Int} {ps : Array (Int × Int)} {ls st : List AV} {σ : Sg} {x : Int} (hd : decode cc pc = .ok (.lookupswitch dflt ps, len)) (hp : (ps.toList.zip (ps.toList.drop 1)).all (fun (a, next) => a.1 < next.1) = true) (ho : Op.lookupswitch.offset ps.toList dflt x = off) (ht : (pc : Int) + off = (tgt : Int)) (k : GW p l e R s m args below meth c Q nL n0 b L sx D cA k0 s0 tgt ls st σ) : GW p l e R s m args below meth c Q nL n0 b L sx D cA k0 s0 pc ls (vI x :: st) σ :=
  gs_of k (fun I => I.pop) (fun _ _ lsA _ _ I _ hl kk => lv_lookup C.1 C.2.1 hd hp (by rw [n32 I.hd]; exact ho) ht (kk lsA hl))
end GS
