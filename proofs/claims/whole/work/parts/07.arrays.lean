section GA
variable {p : Program} {l : Launch} {e : Env} {R : Room} {s : State} {m : MethodId} {args : Array Value} {below : List Frame} {meth : Method} {c : Code} {Q : State → Prop} {cc : ByteArray} {nL : Nat} {own : String} {n0 b L k0 s0 : Nat} {sx : Int → Int} {D : va_G} {cA : Nat → ClassId}
theorem ce_ia {R0 : Rfs} {M0 : Mem} {c0 n : Nat} : ce n0 b cA R0 M0 c0 (10, n) = .inl (cA 0, n, .inl (fun j => Int32.ofInt (M0 c0 j))) := by simp [ce]
theorem ce_za {R0 : Rfs} {M0 : Mem} {c0 n : Nat} : ce n0 b cA R0 M0 c0 (11, n) = .inl (cA 1, n, .inl (fun j => Int32.ofInt (M0 c0 j))) := by simp [ce]
theorem ce_qa {R0 : Rfs} {M0 : Mem} {c0 n kd : Nat} (h : 12 ≤ kd) : ce n0 b cA R0 M0 c0 (kd, n) = .inl (cA (kd - 10), n, .inr (.inr (.inr (.inr (fun j => rfo n0 b (R0 c0 j)))))) := by
  have h1 : ¬ kd < 10 := by omega
  have h2 : ¬ kd < 12 := by omega
  simp [ce, h1, h2]
def elC (kd : Nat) : Nat := ([0, 1, 6] : List Nat).getD (kd - 12) 0
theorem ty5_at {kd : Nat} (h1 : 12 ≤ kd) (h2 : kd ≤ 14) : (ty5 cA)[kd - 10]? = some (cA (kd - 10), .object (clD (elC kd)).1) := by
  rcases (show kd = 12 ∨ kd = 13 ∨ kd = 14 by omega) with rfl | rfl | rfl <;> rfl
theorem elC_lt {kd : Nat} (h1 : 12 ≤ kd) (h2 : kd ≤ 14) : elC kd < 10 := by
  rcases (show kd = 12 ∨ kd = 13 ∨ kd = 14 by omega) with rfl | rfl | rfl <;> decide
theorem toN {j : Int} (h : 0 ≤ j) : ((j.toNat : Nat) : Int) = j := Int.toNat_of_nonneg h
theorem gs_iald (C : Cx p s m args c cc nL own D cA) {pc c0 n : Nat} {j : Int} {ls st : List AV} {σ : Sg} (hd : decode cc pc = .ok (.iaload, 1)) (hK : σ.1[c0]? = some (10, n)) (h0 : 0 ≤ j) (h1 : j < n) (kk : GW p l e R s m args below meth c Q nL n0 b L sx D cA k0 s0 (pc + 1) ls (vI (σ.2.2 c0 j) :: st) σ) : GW p l e R s m args below meth c Q nL n0 b L sx D cA k0 s0 pc ls (vI j :: vR (c0 + 2) :: st) σ := by
  refine gs_of kk (fun I => I.pop.pop.push (I.2.2.1 c0 j)) (fun H locs lsA cells slots I hW hl k2 => ?_)
  have he := wd_get (n0 := n0) (b := b) (cA := cA) hK
  rw [ce_ia] at he
  refine va_iald C.1 C.2.1 C.2.2.2.2.2.1 hW.2.1 c0 0 he rfl (n32_in h0 I.hd h1) hd ?_
  rw [n32_cl h0 I.hd, toN h0]
  exact k2 lsA hl
theorem gs_zald (C : Cx p s m args c cc nL own D cA) {pc c0 n : Nat} {j : Int} {ls st : List AV} {σ : Sg} (hd : decode cc pc = .ok (.baload, 1)) (hK : σ.1[c0]? = some (11, n)) (h0 : 0 ≤ j) (h1 : j < n) (kk : GW p l e R s m args below meth c Q nL n0 b L sx D cA k0 s0 (pc + 1) ls (vI (σ.2.2 c0 j) :: st) σ) : GW p l e R s m args below meth c Q nL n0 b L sx D cA k0 s0 pc ls (vI j :: vR (c0 + 2) :: st) σ := by
  refine gs_of kk (fun I => I.pop.pop.push (I.2.2.1 c0 j)) (fun H locs lsA cells slots I hW hl k2 => ?_)
  have he := wd_get (n0 := n0) (b := b) (cA := cA) hK
  rw [ce_za] at he
  refine va_zald C.1 C.2.1 C.2.2.2.2.2.1 hW.2.1 c0 1 he rfl (n32_in h0 I.hd h1) hd ?_
  rw [n32_cl h0 I.hd, toN h0]
  exact k2 lsA hl
theorem gs_qald (C : Cx p s m args c cc nL own D cA) {pc c0 n kd : Nat} {j : Int} {ls st : List AV} {σ : Sg} (hd : decode cc pc = .ok (.aaload, 1)) (hK : σ.1[c0]? = some (kd, n)) (hk1 : 12 ≤ kd) (hk2 : kd ≤ 14) (h0 : 0 ≤ j) (h1 : j < n) (kk : GW p l e R s m args below meth c Q nL n0 b L sx D cA k0 s0 (pc + 1) ls (vR (σ.2.1 c0 j) :: st) σ) : GW p l e R s m args below meth c Q nL n0 b L sx D cA k0 s0 pc ls (vI j :: vR (c0 + 2) :: st) σ := by
  refine gs_of kk (fun I => I.pop.pop.push trivial) (fun H locs lsA cells slots I hW hl k2 => ?_)
  have he := wd_get (n0 := n0) (b := b) (cA := cA) hK
  rw [ce_qa hk1] at he
  refine va_aldq C.1 C.2.1 C.2.2.2.2.2.1 hW.2.1 c0 (kd - 10) he (ty5_at hk1 hk2) (n32_in h0 I.hd h1) hd ?_
  rw [n32_cl h0 I.hd, toN h0]
  exact k2 lsA hl
theorem gs_sld (C : Cx p s m args c cc nL own D cA) {pc : Nat} {j : Int} {ls st : List AV} {σ : Sg} (hd : decode cc pc = .ok (.iaload, 1)) (h0 : 0 ≤ j) (h1 : j < L) (kk : GW p l e R s m args below meth c Q nL n0 b L sx D cA k0 s0 (pc + 1) ls (vI (sx j) :: st) σ) : GW p l e R s m args below meth c Q nL n0 b L sx D cA k0 s0 pc ls (vI j :: vR 1 :: st) σ := by
  intro H locs lsA I hW hL hl h1' h2' h3'
  have hlt : b < H.size := by have := hW.1; have := hW.2.2.2.1; omega
  refine va_sld (A := fun q => n0 ≤ q) C.1 C.2.1 hW.2.2.1 hlt (by have := hW.2.2.2.1; omega) (vaS_rf hL) (n32_in h0 I.hd h1) hd ?_
  rw [n32_cl h0 I.hd, toN h0]
  exact kk H locs lsA (I.pop.pop.push (hW.2.2.2.2.2 j)) hW hL hl h1' h2' h3'
theorem gs_slen (C : Cx p s m args c cc nL own D cA) {pc : Nat} {ls st : List AV} {σ : Sg} (hd : decode cc pc = .ok (.arraylength, 1)) (kk : GW p l e R s m args below meth c Q nL n0 b L sx D cA k0 s0 (pc + 1) ls (vI L :: st) σ) : GW p l e R s m args below meth c Q nL n0 b L sx D cA k0 s0 pc ls (vR 1 :: st) σ := by
  intro H locs lsA I hW hL hl h1' h2' h3'
  have hlt : b < H.size := by have := hW.1; have := hW.2.2.2.1; omega
  refine va_slen (A := fun q => n0 ≤ q) C.1 C.2.1 hW.2.2.1 hlt (by have := hW.2.2.2.1; omega) (vaS_rf hL) hd ?_
  exact kk H locs lsA (I.pop.push (show inR (L : Int) from by have := hW.2.2.2.2.1; exact ⟨by omega, by omega⟩)) hW hL hl h1' h2' h3'
theorem gs_alen (C : Cx p s m args c cc nL own D cA) {pc c0 n kd : Nat} {ls st : List AV} {σ : Sg} (hd : decode cc pc = .ok (.arraylength, 1)) (hK : σ.1[c0]? = some (kd, n)) (hk1 : 10 ≤ kd) (hk2 : kd ≤ 14) (kk : GW p l e R s m args below meth c Q nL n0 b L sx D cA k0 s0 (pc + 1) ls (vI n :: st) σ) : GW p l e R s m args below meth c Q nL n0 b L sx D cA k0 s0 pc ls (vR (c0 + 2) :: st) σ := by
  refine gs_of kk (fun I => I.pop.push (show inR (n : Int) from by have := I.2.2.2 _ (List.mem_of_getElem? hK); dsimp only at this; exact ⟨by omega, by omega⟩)) (fun H locs lsA cells slots I hW hl k2 => ?_)
  have he := wd_get (n0 := n0) (b := b) (cA := cA) hK
  rcases (show kd = 10 ∨ kd = 11 ∨ 12 ≤ kd by omega) with rfl | rfl | h
  · rw [ce_ia] at he
    exact va_alen C.1 C.2.1 C.2.2.2.2.2.1 hW.2.1 c0 0 he (ty := .int) rfl (v := Int32.ofInt n) rfl hd (k2 lsA hl)
  · rw [ce_za] at he
    exact va_alen C.1 C.2.1 C.2.2.2.2.2.1 hW.2.1 c0 1 he (ty := .boolean) rfl (v := Int32.ofInt n) rfl hd (k2 lsA hl)
  · rw [ce_qa h] at he
    exact va_alen C.1 C.2.1 C.2.2.2.2.2.1 hW.2.1 c0 (kd - 10) he (ty5_at h hk2) (v := Int32.ofInt n) rfl hd (k2 lsA hl)
theorem upd_mset {M0 : Mem} {c0 : Nat} {j x : Int} (h0 : 0 ≤ j) : upd (fun i : Nat => Int32.ofInt (M0 c0 i)) j.toNat (Int32.ofInt x) = fun i : Nat => Int32.ofInt (mset M0 c0 j x c0 i) := by
  funext i
  unfold upd
  by_cases h : i = j.toNat
  · rw [if_pos h, h, toN h0, mset_eq]
  · rw [if_neg h, mset_nk (by omega)]
theorem gs_iast (C : Cx p s m args c cc nL own D cA) {pc c0 n : Nat} {j x : Int} {ls st : List AV} {σ : Sg} (hd : decode cc pc = .ok (.iastore, 1)) (hK : σ.1[c0]? = some (10, n)) (h0 : 0 ≤ j) (h1 : j < n) (kk : GW p l e R s m args below meth c Q nL n0 b L sx D cA k0 s0 (pc + 1) ls st (σ.1, σ.2.1, mset σ.2.2 c0 j x)) : GW p l e R s m args below meth c Q nL n0 b L sx D cA k0 s0 pc ls (vI x :: vI j :: vR (c0 + 2) :: st) σ := by
  intro H locs lsA I hW hL hl h1' h2' h3'
  have he := wd_get (n0 := n0) (b := b) (cA := cA) hK
  rw [ce_ia] at he
  have hx : inR x := I.hd
  refine va_iast C.1 C.2.1 C.2.2.2.2.2.1 hW.2.1 (wd_D n0 b cA σ) (vaS_rf hL) c0 0 he rfl (n32_in h0 I.pop.hd h1) hd (fun H1 locs1 hP _ hS => ?_)
  rw [n32_cl h0 I.pop.hd, upd_mset h0, wd_set (K := σ.1) (R := σ.2.1) (M := σ.2.2) (R' := σ.2.1) (M' := mset σ.2.2 c0 j x) hK ce_ia (fun c' q' hc' => ce_other rfl (mset_ne hc') q')] at hP
  exact gs_same (R0 := σ.2.1) (M0 := σ.2.2) kk (I.pop.pop.pop.mem (mset_in I.2.2.1 hx)) hW hl h1' h2' h3' hP hS
theorem gs_zast (C : Cx p s m args c cc nL own D cA) {pc c0 n : Nat} {j x : Int} {ls st : List AV} {σ : Sg} (hd : decode cc pc = .ok (.bastore, 1)) (hK : σ.1[c0]? = some (11, n)) (h0 : 0 ≤ j) (h1 : j < n) (hx01 : x = 0 ∨ x = 1) (kk : GW p l e R s m args below meth c Q nL n0 b L sx D cA k0 s0 (pc + 1) ls st (σ.1, σ.2.1, mset σ.2.2 c0 j x)) : GW p l e R s m args below meth c Q nL n0 b L sx D cA k0 s0 pc ls (vI x :: vI j :: vR (c0 + 2) :: st) σ := by
  intro H locs lsA I hW hL hl h1' h2' h3'
  have he := wd_get (n0 := n0) (b := b) (cA := cA) hK
  rw [ce_za] at he
  have hx : inR x := I.hd
  have hz : vp_nar .boolean (Int32.ofInt x) = Int32.ofInt x := by rcases hx01 with rfl | rfl <;> decide +kernel
  refine va_zast C.1 C.2.1 C.2.2.2.2.2.1 hW.2.1 (wd_D n0 b cA σ) (vaS_rf hL) c0 1 he rfl (n32_in h0 I.pop.hd h1) hd (fun H1 locs1 hP _ hS => ?_)
  rw [hz, n32_cl h0 I.pop.hd, upd_mset h0, wd_set (K := σ.1) (R := σ.2.1) (M := σ.2.2) (R' := σ.2.1) (M' := mset σ.2.2 c0 j x) hK ce_za (fun c' q' hc' => ce_other rfl (mset_ne hc') q')] at hP
  exact gs_same (R0 := σ.2.1) (M0 := σ.2.2) kk (I.pop.pop.pop.mem (mset_in I.2.2.1 hx)) hW hl h1' h2' h3' hP hS
theorem upd_rset {R0 : Rfs} {c0 d : Nat} {j : Int} (h0 : 0 ≤ j) : va_up (fun i : Nat => rfo n0 b (R0 c0 i)) j.toNat (some (n0 + d)) = fun i : Nat => rfo n0 b (rset R0 c0 j (d + 2) c0 i) := by
  funext i
  unfold va_up
  by_cases h : i = j.toNat
  · rw [if_pos h, h, toN h0, rset_eq]; rfl
  · rw [if_neg h, rset_nk (by omega)]
theorem gs_qast (C : Cx p s m args c cc nL own D cA) {pc c0 n kd d nd : Nat} {j : Int} {ls st : List AV} {σ : Sg} (hd : decode cc pc = .ok (.aastore, 1)) (hK : σ.1[c0]? = some (kd, n)) (hk1 : 12 ≤ kd) (hk2 : kd ≤ 14) (hV : σ.1[d]? = some (elC kd, nd)) (h0 : 0 ≤ j) (h1 : j < n) (kk : GW p l e R s m args below meth c Q nL n0 b L sx D cA k0 s0 (pc + 1) ls st (σ.1, rset σ.2.1 c0 j (d + 2), σ.2.2)) : GW p l e R s m args below meth c Q nL n0 b L sx D cA k0 s0 pc ls (vR (d + 2) :: vI j :: vR (c0 + 2) :: st) σ := by
  intro H locs lsA I hW hL hl h1' h2' h3'
  have he := wd_get (n0 := n0) (b := b) (cA := cA) hK
  rw [ce_qa hk1] at he
  have hv := wd_get (n0 := n0) (b := b) (cA := cA) hV
  rw [ce_ob (elC_lt hk1 hk2)] at hv
  refine va_astq (r := clD (elC kd)) C.1 C.2.1 C.2.2.2.2.2.1 hW.2.1 (wd_D n0 b cA σ) (vaS_rf hL) c0 (kd - 10) d (elC kd) he (ty5_at hk1 hk2) hv (cl_get _ (elC_lt hk1 hk2)) (n32_in h0 I.pop.hd h1) hd (fun H1 locs1 hP _ hS => ?_)
  rw [n32_cl h0 I.pop.hd, upd_rset h0, wd_set (K := σ.1) (R := σ.2.1) (M := σ.2.2) (R' := rset σ.2.1 c0 j (d + 2)) (M' := σ.2.2) hK (ce_qa hk1) (fun c' q' hc' => ce_other (rset_ne hc') rfl q')] at hP
  exact gs_same (R0 := σ.2.1) (M0 := σ.2.2) kk (I.pop.pop.pop.mem I.2.2.1) hW hl h1' h2' h3' hP hS
theorem mcpy_in {M0 : Mem} {c0 d : Nat} {sp dp n : Int} (h : ∀ c j, inR (M0 c j)) : ∀ c j, inR (mcpy M0 c0 sp d dp n c j) := by
  intro c j
  unfold mcpy
  split
  · exact h _ _
  · exact h c j
theorem gs_copy (C : Cx p s m args c cc nL own D cA) {pc index c0 d nc nd : Nat} {n dp sp : Int} {ls : List AV} {σ : Sg} (hd : decode cc pc = .ok (.invokestatic index, 3)) (hlink : Jvm.Cond.methodLink own index arraycopyName ∈ bigW) (hnat : Jvm.Cond.native arraycopyName ∈ bigW) (hstat : Jvm.Cond.static arraycopyName ∈ bigW) (hini : Jvm.Cond.initialized "java/lang/System" ∈ bigW)
    (hK : σ.1[c0]? = some (10, nc)) (hV : σ.1[d]? = some (10, nd)) (h0 : 0 ≤ n) (h1 : 0 ≤ dp) (h2 : 0 ≤ sp) (h3 : sp + n ≤ nc) (h4 : dp + n ≤ nd) (hfr : 1 ≤ R.frames) (hlo : 40 ≤ R.locals)
    (kk : GW p l e R s m args below meth c Q nL n0 b L sx D cA k0 s0 (pc + 3) ls [] (σ.1, σ.2.1, mcpy σ.2.2 c0 sp d dp n)) : GW p l e R s m args below meth c Q nL n0 b L sx D cA k0 s0 pc ls [vI n, vI dp, vR (d + 2), vI sp, vR (c0 + 2)] σ := by
  intro H locs lsA I hW hL hl h1' h2' h3'
  have he := wd_get (n0 := n0) (b := b) (cA := cA) hK
  rw [ce_ia] at he
  have hv := wd_get (n0 := n0) (b := b) (cA := cA) hV
  rw [ce_ia] at hv
  have in1 : inR n := I.hd
  have in2 : inR dp := I.pop.hd
  have in3 : inR sp := I.pop.pop.pop.hd
  have ng : ∀ {x : Int}, 0 ≤ x → inR x → ¬ Int32.ofInt x < 0 := fun hx hi q => by
    have := (n32_lt (y := 0) hi z32).mp q
    omega
  refine va_copyi C.1 C.2.1 (C.2.2.1.trans hl.2.1.symm) C.2.2.2.1 (C.2.2.2.2.1 _ hlink) (C.2.2.2.2.1 _ hnat) (C.2.2.2.2.1 _ hstat) (C.2.2.2.2.1 _ hini) C.2.2.2.2.2.1 hW.2.1 (wd_D n0 b cA σ) (vaS_rf hL) c0 d 0 0 (ty := .int) he hv rfl rfl rfl (ng h2 in3) (ng h1 in2) (ng h0 in1)
    (by rw [n32_cl h2 in3, n32_cl h0 in1]; omega) (by rw [n32_cl h1 in2, n32_cl h0 in1]; omega) (fun _ _ => rfl) hfr (Nat.le_trans (Nat.le_of_ble_eq_true rfl) hlo) hd (fun H1 locs1 hP _ hS => ?_)
  have e : va_cpy (fun i : Nat => Int32.ofInt (σ.2.2 c0 i)) (fun i : Nat => Int32.ofInt (σ.2.2 d i)) sp.toNat dp.toNat n.toNat = fun i : Nat => Int32.ofInt (mcpy σ.2.2 c0 sp d dp n d i) := by
    funext i
    unfold va_cpy mcpy
    by_cases h : dp.toNat ≤ i ∧ i < dp.toNat + n.toNat
    · rw [if_pos h, if_pos ⟨rfl, by omega, by omega⟩]
      dsimp only
      rw [show ((sp.toNat + (i - dp.toNat) : Nat) : Int) = sp + ((i : Int) - dp) by omega]
    · rw [if_neg h, if_neg (fun q => h ⟨by omega, by omega⟩)]
  rw [n32_cl h2 in3, n32_cl h1 in2, n32_cl h0 in1, e, wd_set (K := σ.1) (R := σ.2.1) (M := σ.2.2) (R' := σ.2.1) (M' := mcpy σ.2.2 c0 sp d dp n) hV ce_ia (fun c' q' hc' => ce_other rfl (by funext k; simp [mcpy, hc']) q')] at hP
  exact gs_same (R0 := σ.2.1) (M0 := σ.2.2) (st := []) kk (I.pop.pop.pop.pop.pop.mem (mcpy_in I.2.2.1)) hW hl h1' h2' h3' hP hS
theorem gs_objinit (C : Cx p s m args c cc nL own D cA) {pc index c0 : Nat} {ls st : List AV} {σ : Sg} (hd : decode cc pc = .ok (.invokespecial index, 3)) (hlink : Jvm.Cond.methodLink own index Lib.objectInit ∈ bigW) (hinst : Jvm.Cond.instanceMethod Lib.objectInit ∈ bigW) (hcode : Jvm.Cond.code Lib.objectInit ⟨#[0xb1]⟩ 1 none ∈ bigW) (hs : catS st ≤ 8) (hfr : 1 ≤ R.frames) (hlo : 20 ≤ R.locals)
    (kk : GW p l e R s m args below meth c Q nL n0 b L sx D cA k0 s0 (pc + 3) ls st σ) : GW p l e R s m args below meth c Q nL n0 b L sx D cA k0 s0 pc ls (vR (c0 + 2) :: st) σ := by
  refine gs_of kk (fun I => I.pop) (fun H locs lsA cells slots I hW hl k2 => ?_)
  refine W.objInit C.1 C.2.1 C.2.2.2.1 (C.2.2.2.2.1 _ hlink) (C.2.2.2.2.1 _ hinst) (C.2.2.2.2.1 _ hcode) rfl (hl.2.1.trans C.2.2.1.symm) rfl hd hfr ?_ (k2 lsA hl)
  have h := lv_room (pc := pc) (ls := lsA) (rest := []) (m := m) (st := st.map (cv n0 b)) (by rw [cv_catS]; exact hs)
  exact Nat.le_trans (Nat.add_le_add_right h 12) hlo
theorem gs_mmax (C : Cx p s m args c cc nL own D cA) {pc index : Nat} {x y : Int} {ls st : List AV} {σ : Sg} (hd : decode cc pc = .ok (.invokestatic index, 3)) (hlink : Jvm.Cond.methodLink own index Lib.Math.max.name ∈ bigW) (hstat : Jvm.Cond.static Lib.Math.max.name ∈ bigW) (hini : Jvm.Cond.initialized "java/lang/Math" ∈ bigW) (hcode : Jvm.Cond.code Lib.Math.max.name Lib.Math.max.code 2 (some .int) ∈ bigW)
    (hs : catS st ≤ 8) (hfr : 1 ≤ R.frames) (hlo : 21 ≤ R.locals) (hcells : σ.1.length - k0 ≤ R.cells) (hslots : slN σ.1 - s0 ≤ R.slots) (kk : GW p l e R s m args below meth c Q nL n0 b L sx D cA k0 s0 (pc + 3) ls (vI (max x y) :: st) σ) : GW p l e R s m args below meth c Q nL n0 b L sx D cA k0 s0 pc ls (vI y :: vI x :: st) σ := by
  intro H locs lsA I hW hL hl h1' h2' h3'
  have hx : inR x := I.pop.hd
  have hy : inR y := I.hd
  have h2 := kk H locs lsA (I.pop.pop.push (show inR (max x y) from by have := hx.1; have := hx.2; have := hy.1; have := hy.2; exact ⟨by omega, by omega⟩)) hW hL hl h1' h2' h3'
  refine va_mmax C.1 C.2.1 (C.2.2.1.trans hl.2.1.symm) C.2.2.2.1 (C.2.2.2.2.1 _ hlink) (C.2.2.2.2.1 _ hstat) (C.2.2.2.2.1 _ hini) (C.2.2.2.2.1 _ hcode) hfr (by rw [cv_catS]; omega) hcells hslots hd ?_
  have e : (if Int32.ofInt x < Int32.ofInt y then Int32.ofInt y else Int32.ofInt x) = Int32.ofInt (max x y) := by
    simp only [n32_lt hx hy]
    by_cases h : x < y
    · rw [if_pos h, Int.max_eq_right (by omega)]
    · rw [if_neg h, Int.max_eq_left (by omega)]
  rw [e]
  exact h2
theorem gs_mmin (C : Cx p s m args c cc nL own D cA) {pc index : Nat} {x y : Int} {ls st : List AV} {σ : Sg} (hd : decode cc pc = .ok (.invokestatic index, 3)) (hlink : Jvm.Cond.methodLink own index Lib.Math.min.name ∈ bigW) (hstat : Jvm.Cond.static Lib.Math.min.name ∈ bigW) (hini : Jvm.Cond.initialized "java/lang/Math" ∈ bigW) (hcode : Jvm.Cond.code Lib.Math.min.name Lib.Math.min.code 2 (some .int) ∈ bigW)
    (hs : catS st ≤ 8) (hfr : 1 ≤ R.frames) (hlo : 21 ≤ R.locals) (hcells : σ.1.length - k0 ≤ R.cells) (hslots : slN σ.1 - s0 ≤ R.slots) (kk : GW p l e R s m args below meth c Q nL n0 b L sx D cA k0 s0 (pc + 3) ls (vI (min x y) :: st) σ) : GW p l e R s m args below meth c Q nL n0 b L sx D cA k0 s0 pc ls (vI y :: vI x :: st) σ := by
  intro H locs lsA I hW hL hl h1' h2' h3'
  have hx : inR x := I.pop.hd
  have hy : inR y := I.hd
  have h2 := kk H locs lsA (I.pop.pop.push (show inR (min x y) from by have := hx.1; have := hx.2; have := hy.1; have := hy.2; exact ⟨by omega, by omega⟩)) hW hL hl h1' h2' h3'
  refine va_mmin C.1 C.2.1 (C.2.2.1.trans hl.2.1.symm) C.2.2.2.1 (C.2.2.2.2.1 _ hlink) (C.2.2.2.2.1 _ hstat) (C.2.2.2.2.1 _ hini) (C.2.2.2.2.1 _ hcode) hfr (by rw [cv_catS]; omega) hcells hslots hd ?_
  have e : (if Int32.ofInt y < Int32.ofInt x then Int32.ofInt y else Int32.ofInt x) = Int32.ofInt (min x y) := by
    simp only [n32_lt hy hx]
    by_cases h : y < x
    · rw [if_pos h, Int.min_eq_right (by omega)]
    · rw [if_neg h, Int.min_eq_left (by omega)]
  rw [e]
  exact h2
theorem new_q {σ : Sg} {e0 : va_E} {q : Nat} {H1 : Heap} (hP : va_P D vwCl (wd n0 b cA σ ++ [(q, e0)]) H1) (hD : va_D (fun q => n0 ≤ q) (wd n0 b cA σ ++ [(q, e0)])) (hz : H1.size ≤ n0 + (σ.1.length + 1)) : q = n0 + σ.1.length := by
  have hl : (wd n0 b cA σ ++ [(q, e0)])[σ.1.length]? = some (q, e0) := by
    rw [List.getElem?_append_right (by rw [wd_len]; exact Nat.le_refl _), wd_len, Nat.sub_self]; rfl
  have h1 : q < H1.size := (hP _ _ hl).lt
  have h2 : n0 ≤ q := hD.2 _ _ hl
  rcases Nat.lt_or_ge q (n0 + σ.1.length) with h | h
  · exfalso
    have hc : q - n0 < σ.1.length := by omega
    have h3 : (wd n0 b cA σ ++ [(q, e0)])[q - n0]? = some (n0 + (q - n0), ce n0 b cA σ.2.1 σ.2.2 (q - n0) σ.1[q - n0]) := by
      rw [List.getElem?_append_left (by rw [wd_len]; exact hc)]
      exact wd_get (List.getElem?_eq_getElem hc)
    have := hD.1 _ _ _ _ h3 hl (by dsimp only; omega)
    omega
  · omega
theorem mclr_in {M0 : Mem} {c0 : Nat} (h : ∀ c j, inR (M0 c j)) : ∀ c j, inR (mclr M0 c0 c j) := by
  intro c j
  unfold mclr
  split
  · exact z32
  · exact h c j
theorem INV.grow {ls st : List AV} {σ : Sg} {q : Nat × Nat} {v : AV} (I : INV ls st σ) (hq : q.2 ≤ 100000) (hv : okv v) {R' : Rfs} {c0 : Nat} : INV ls (v :: st) (σ.1 ++ [q], R', mclr σ.2.2 c0) := ⟨I.1, (I.push hv).2.1, mclr_in I.2.2.1, fun x hx => by
  rcases List.mem_append.mp hx with h | h
  · exact I.2.2.2 x h
  · rw [List.mem_singleton.mp h]; exact hq⟩
theorem mclr_ne {M0 : Mem} {c0 c1 : Nat} (h : c1 ≠ c0) : mclr M0 c0 c1 = M0 c1 := by funext j; simp [mclr, h]
theorem rclr_ne {R0 : Rfs} {c0 c1 : Nat} (h : c1 ≠ c0) : rclr R0 c0 c1 = R0 c1 := by funext j; simp [rclr, h]
/-- behind any making of a cell -/
theorem gs_made {pc : Nat} {ls st : List AV} {σ : Sg} {q : Nat × Nat} {H : Heap} {lsA : Array Slot} {cells slots : Nat} (I : INV ls st σ) (hq2 : q.2 ≤ 100000) (kk : GW p l e R s m args below meth c Q nL n0 b L sx D cA k0 s0 pc ls (vR (σ.1.length + 2) :: st) (σ.1 ++ [q], rclr σ.2.1 σ.1.length, mclr σ.2.2 σ.1.length)) (hW : WH n0 b L sx D cA s σ H) (hl : LH n0 b lsA nL ls) (hk0 : k0 ≤ σ.1.length) (hs0 : s0 ≤ slN σ.1) (hsz : s.heap.size = n0 + k0)
    (hc : cells = σ.1.length - k0 + 1) (hs : slots = slN σ.1 - s0 + q.2) {a : Nat} {H1 : Heap} {locs1 : List Loc} (hP : va_P D vwCl (wd n0 b cA σ ++ [(a, ce n0 b cA (rclr σ.2.1 σ.1.length) (mclr σ.2.2 σ.1.length) σ.1.length q)]) H1) (hD : va_D (fun q => n0 ≤ q) (wd n0 b cA σ ++ [(a, ce n0 b cA (rclr σ.2.1 σ.1.length) (mclr σ.2.2 σ.1.length) σ.1.length q)])) (hS : va_S (fun q => n0 ≤ q) H H1 locs1) :
    W p l e R s m args below meth c H1 locs1 cells slots Q (F0 m pc lsA (.ref a :: st.map (cv n0 b))) := by
  intro T hT X
  have hz := X.heapSize
  rw [hT, hsz] at hz
  have ha := new_q hP hD (by omega)
  subst ha
  have hlow : n0 + σ.1.length < H1.size := by
    have hl : (wd n0 b cA σ ++ [(n0 + σ.1.length, ce n0 b cA (rclr σ.2.1 σ.1.length) (mclr σ.2.2 σ.1.length) σ.1.length q)])[σ.1.length]? = some (n0 + σ.1.length, ce n0 b cA (rclr σ.2.1 σ.1.length) (mclr σ.2.2 σ.1.length) σ.1.length q) := by
      rw [List.getElem?_append_right (by rw [wd_len]; exact Nat.le_refl _), wd_len, Nat.sub_self]; rfl
    exact (hP _ _ hl).lt
  rw [wd_push (K := σ.1) (R := σ.2.1) (M := σ.2.2) (R' := rclr σ.2.1 σ.1.length) (M' := mclr σ.2.2 σ.1.length) (q := q) rfl (fun c' q' hc' => ce_other (rclr_ne hc') (mclr_ne hc') q')] at hP
  exact gs_end (st := vR (σ.1.length + 2) :: st) kk (I.grow (v := vR (σ.1.length + 2)) hq2 trivial) hW hl (by rw [List.length_append]; omega) (by rw [slN_push]; omega) hsz (by rw [hc, List.length_append, List.length_singleton]; omega) (by rw [hs, slN_push]; omega) hP hS (by rw [List.length_append, List.length_singleton]; omega) T hT X
theorem gs_new (C : Cx p s m args c cc nL own D cA) {pc index ci : Nat} {ls st : List AV} {σ : Sg} (hd : decode cc pc = .ok (.new index, 3)) (hci : ci < 10) (hcl : Jvm.Cond.classLink own index (clD ci).1 ∈ bigW) (hinst : Jvm.Cond.instantiable (clD ci).1 (clD ci).2.2 ∈ bigW) (hini : Jvm.Cond.initialized (clD ci).1 ∈ bigW) (hcells : σ.1.length - k0 + 1 ≤ R.cells) (hslots : slN σ.1 - s0 + cnN ci ≤ R.slots)
    (kk : GW p l e R s m args below meth c Q nL n0 b L sx D cA k0 s0 (pc + 3) ls (vR (σ.1.length + 2) :: st) (σ.1 ++ [(ci, cnN ci)], rclr σ.2.1 σ.1.length, mclr σ.2.2 σ.1.length)) : GW p l e R s m args below meth c Q nL n0 b L sx D cA k0 s0 pc ls st σ := by
  intro H locs lsA I hW hL hl h1' h2' h3'
  have hc100 : cnN ci ≤ 100000 := by
    have : ∀ ci, ci < 10 → cnN ci ≤ 100000 := by decide +kernel
    exact this ci hci
  refine va_new (fs := cfs n0 b (rclr σ.2.1 σ.1.length) (mclr σ.2.2 σ.1.length) σ.1.length ci) C.1 C.2.1 C.2.2.2.2.1 (cl_lay ci hci) (tyD ci) (cl_ty ci hci) C.2.2.2.1 (C.2.2.2.2.1 _ hcl) (C.2.2.2.2.1 _ hinst) (C.2.2.2.2.1 _ hini) C.2.2.2.2.2.1 hW.2.1 (wd_D n0 b cA σ) (vaS_rf hL) (fun q hq => by have := hW.1; exact Nat.le_trans (by omega) hq) (cl_get ci hci) (fun j hj => ?_) hcells (by rw [cl_N ci hci]; exact hslots) hd (fun q H1 hP hD hS => ?_)
  · have hj2 : j < cnN ci := by rw [← cl_N ci hci]; exact hj
    have hr := cl_tk ci hci j hj2
    have e : vp_V (cfs n0 b (rclr σ.2.1 σ.1.length) (mclr σ.2.2 σ.1.length) σ.1.length ci) j = if ftk ci j = 2 then .null else .int 0 := by
      unfold vp_V
      rw [List.getD_eq_getElem?_getD, cfs_at hj2]
      simp only [rclr, mclr, if_true, Option.getD_some]
      rfl
    rw [e]
    rcases tkd_lt ci hci j hj2 with h | h | h
    · rw [tkd_0 (hr.trans h), h]; rfl
    · rw [tkd_1 (hr.trans h), h]; rfl
    · rw [h, if_pos rfl]
      rcases tkd_2 (hr.trans h) with ⟨u, hu⟩ | ⟨u, hu⟩ <;> rw [hu] <;> rfl
  · exact gs_made (q := (ci, cnN ci)) I hc100 kk hW hl h1' h2' h3' rfl (by rw [cl_N ci hci]) (by rw [ce_ob hci]; exact hP) (by rw [ce_ob hci]; exact hD) hS
theorem same_cls {s : State} {c1 c2 : ClassId} {ty : FieldType} (h1 : va_RA s c1 ty) (h2 : va_RA s c2 ty) : c1 = c2 := by
  cases ty with
  | object C0 =>
    obtain ⟨_, _, _, _, _, h3⟩ := h1
    obtain ⟨_, _, _, _, _, h4⟩ := h2
    exact Option.some.inj (h3.symm.trans h4)
  | _ => exact Option.some.inj (Eq.trans (Eq.symm h1) h2)
theorem last_ty {cl : List vw_C} {tys : List (ClassId × FieldType)} {q : ClassId × FieldType} {U : State} (h : va_K D cl (tys ++ [q]) U) : va_RA U q.1 q.2 := by
  refine (h.2 tys.length q ?_).2
  rw [List.getElem?_append_right (Nat.le_refl _), Nat.sub_self]; rfl
theorem gs_newarr (C : Cx p s m args c cc nL own D cA) {pc kd : Nat} {at0 : ArrayType} {ty : FieldType} {x : Int} {ls st : List AV} {σ : Sg} (hd : decode cc pc = .ok (.newarray at0, 2)) (hk : (kd = 10 ∧ at0 = .int ∧ ty = .int) ∨ (kd = 11 ∧ at0 = .boolean ∧ ty = .boolean)) (harr : Jvm.Cond.arrayClass ty ∈ bigW) (h0 : 0 ≤ x) (h1 : x ≤ 100000) (hcells : σ.1.length - k0 + 1 ≤ R.cells) (hslots : slN σ.1 - s0 + x.toNat ≤ R.slots)
    (kk : GW p l e R s m args below meth c Q nL n0 b L sx D cA k0 s0 (pc + 2) ls (vR (σ.1.length + 2) :: st) (σ.1 ++ [(kd, x.toNat)], rclr σ.2.1 σ.1.length, mclr σ.2.2 σ.1.length)) : GW p l e R s m args below meth c Q nL n0 b L sx D cA k0 s0 pc ls (vI x :: st) σ := by
  intro H locs lsA I hW hL hl h1' h2' h3'
  have hx : inR x := I.hd
  have hty : newarray.typeOf at0 = ty := by rcases hk with ⟨_, rfl, rfl⟩ | ⟨_, rfl, rfl⟩ <;> rfl
  have hdef : defaultValue ty = .int 0 := by rcases hk with ⟨_, rfl, rfl⟩ | ⟨_, rfl, rfl⟩ <;> rfl
  have hby : x.toNat * componentBytes ty ≤ 536870912 := by
    have : componentBytes ty ≤ 4 := by rcases hk with ⟨_, rfl, rfl⟩ | ⟨_, rfl, rfl⟩ <;> decide
    exact Nat.le_trans (Nat.mul_le_mul_left _ this) (by omega)
  have hold : va_RA s (cA (kd - 10)) ty := by
    rcases hk with ⟨rfl, _, rfl⟩ | ⟨rfl, _, rfl⟩
    · exact (C.2.2.2.2.2.1.2 0 _ rfl).2
    · exact (C.2.2.2.2.2.1.2 1 _ rfl).2
  refine va_newa (atype := at0) (a0 := (x.toNat, .inl (fun _ => 0))) C.1 C.2.1 (by rw [hty]; exact C.2.2.2.2.1 _ harr) hty C.2.2.2.2.2.1 hW.2.1 (wd_D n0 b cA σ) (vaS_rf hL) (fun q hq => by have := hW.1; exact Nat.le_trans (by omega) hq) (fun cB => by rw [vp_cell_i, hdef]) (fun q => by have := (n32_lt (y := 0) hx z32).mp q; omega) (n32_cl h0 hx) hby hcells hslots hd (fun q cB H1 hKn hP hD hS => ?_)
  have hcB := same_cls (last_ty hKn) hold
  dsimp only at hcB
  subst hcB
  have hce : ce n0 b cA (rclr σ.2.1 σ.1.length) (mclr σ.2.2 σ.1.length) σ.1.length (kd, x.toNat) = .inl (cA (kd - 10), x.toNat, .inl (fun _ => 0)) := by
    rcases hk with ⟨rfl, _, _⟩ | ⟨rfl, _, _⟩
    · rw [ce_ia]; simp [mclr]
    · rw [ce_za]; simp [mclr]
  exact gs_made (q := (kd, x.toNat)) I.pop (by dsimp only; omega) kk hW hl h1' h2' h3' rfl rfl (by rw [hce]; exact hP) (by rw [hce]; exact hD) hS
theorem gs_newq (C : Cx p s m args c cc nL own D cA) {pc index kd : Nat} {x : Int} {ls st : List AV} {σ : Sg} (hd : decode cc pc = .ok (.anewarray index, 3)) (hk1 : 12 ≤ kd) (hk2 : kd ≤ 14) (hcl : Jvm.Cond.classLink own index (clD (elC kd)).1 ∈ bigW) (h0 : 0 ≤ x) (h1 : x ≤ 100000) (hcells : σ.1.length - k0 + 1 ≤ R.cells) (hslots : slN σ.1 - s0 + x.toNat ≤ R.slots)
    (kk : GW p l e R s m args below meth c Q nL n0 b L sx D cA k0 s0 (pc + 3) ls (vR (σ.1.length + 2) :: st) (σ.1 ++ [(kd, x.toNat)], rclr σ.2.1 σ.1.length, mclr σ.2.2 σ.1.length)) : GW p l e R s m args below meth c Q nL n0 b L sx D cA k0 s0 pc ls (vI x :: st) σ := by
  intro H locs lsA I hW hL hl h1' h2' h3'
  have hx : inR x := I.hd
  have hao : va_AO (clD (elC kd)).1 s := by
    rcases (show kd = 12 ∨ kd = 13 ∨ kd = 14 by omega) with rfl | rfl | rfl
    · exact C.2.2.2.2.2.2.2.1
    · exact C.2.2.2.2.2.2.2.2.1
    · exact C.2.2.2.2.2.2.2.2.2
  have hold : va_RA s (cA (kd - 10)) (.object (clD (elC kd)).1) := (C.2.2.2.2.2.1.2 (kd - 10) _ (ty5_at hk1 hk2)).2
  refine va_newq C.1 C.2.1 C.2.2.2.1 (C.2.2.2.2.1 _ hcl) hao C.2.2.2.2.2.1 hW.2.1 (wd_D n0 b cA σ) (vaS_rf hL) (fun q hq => by have := hW.1; exact Nat.le_trans (by omega) hq) (fun q => by have := (n32_lt (y := 0) hx z32).mp q; omega) (n32_cl h0 hx) (by omega) hcells hslots hd (fun q cB H1 hKn hP hD hS => ?_)
  have hcB := same_cls (last_ty hKn) hold
  dsimp only at hcB
  subst hcB
  have hce : ce n0 b cA (rclr σ.2.1 σ.1.length) (mclr σ.2.2 σ.1.length) σ.1.length (kd, x.toNat) = .inl (cA (kd - 10), x.toNat, .inr (.inr (.inr (.inr (fun _ => none))))) := by
    rw [ce_qa hk1]; simp [rclr]; rfl
  exact gs_made (q := (kd, x.toNat)) I.pop (by dsimp only; omega) kk hW hl h1' h2' h3' rfl rfl (by rw [hce]; exact hP) (by rw [hce]; exact hD) hS
end GA
