theorem hw_nat : Jvm.Cond.native arraycopyName ∈ bigW := bigW_of (i := 1122) (by decide +kernel) rfl
theorem hw_acs : Jvm.Cond.static arraycopyName ∈ bigW := bigW_of (i := 1121) (by decide +kernel) rfl
theorem hw_sys : Jvm.Cond.initialized "java/lang/System" ∈ bigW := bigW_of (i := 156) (by decide +kernel) rfl
theorem hw_mth : Jvm.Cond.initialized "java/lang/Math" ∈ bigW := bigW_of (i := 154) (by decide +kernel) rfl
theorem hw_maxs : Jvm.Cond.static Lib.Math.max.name ∈ bigW := bigW_of (i := 874) (by decide +kernel) rfl
theorem hw_maxc : Jvm.Cond.code Lib.Math.max.name Lib.Math.max.code 2 (some .int) ∈ bigW := bigW_of (i := 875) (by decide +kernel) rfl
theorem hw_mins : Jvm.Cond.static Lib.Math.min.name ∈ bigW := bigW_of (i := 738) (by decide +kernel) rfl
theorem hw_minc : Jvm.Cond.code Lib.Math.min.name Lib.Math.min.code 2 (some .int) ∈ bigW := bigW_of (i := 739) (by decide +kernel) rfl
theorem hw_oii : Jvm.Cond.instanceMethod Lib.objectInit ∈ bigW := bigW_of (i := 163) (by decide +kernel) rfl
theorem hw_oic : Jvm.Cond.code Lib.objectInit ⟨#[0xb1]⟩ 1 none ∈ bigW := bigW_of (i := 164) (by decide +kernel) rfl
theorem hw_ai : Jvm.Cond.arrayClass .int ∈ bigW := bigW_of (i := 191) (by decide +kernel) rfl
theorem hw_az : Jvm.Cond.arrayClass .boolean ∈ bigW := bigW_of (i := 1350) (by decide +kernel) rfl
theorem hw_inst : ∀ ci, ci < 10 → Jvm.Cond.instantiable (clD ci).1 (clD ci).2.2 ∈ bigW := cl_10 (bigW_of (i := 372) (by decide +kernel) rfl) (bigW_of (i := 263) (by decide +kernel) rfl) (bigW_of (i := 349) (by decide +kernel) rfl) (bigW_of (i := 365) (by decide +kernel) rfl) (bigW_of (i := 508) (by decide +kernel) rfl) (bigW_of (i := 195) (by decide +kernel) rfl) (bigW_of (i := 325) (by decide +kernel) rfl) (bigW_of (i := 166) (by decide +kernel) rfl) (bigW_of (i := 158) (by decide +kernel) rfl) (bigW_of (i := 1149) (by decide +kernel) rfl)
theorem hw_init : ∀ ci, ci < 10 → Jvm.Cond.initialized (clD ci).1 ∈ bigW := cl_10 (bigW_of (i := 151) (by decide +kernel) rfl) (bigW_of (i := 147) (by decide +kernel) rfl) (bigW_of (i := 149) (by decide +kernel) rfl) (bigW_of (i := 150) (by decide +kernel) rfl) (bigW_of (i := 152) (by decide +kernel) rfl) (bigW_of (i := 146) (by decide +kernel) rfl) (bigW_of (i := 148) (by decide +kernel) rfl) (bigW_of (i := 145) (by decide +kernel) rfl) (bigW_of (i := 144) (by decide +kernel) rfl) (bigW_of (i := 153) (by decide +kernel) rfl)
section SS
variable {p : Program} {l : Launch} {e : Env} {R : Room} {s : State} {m : MethodId} {args : Array Value} {below : List Frame} {meth : Method} {c : Code} {Q : State → Prop} {cc : ByteArray} {nL : Nat} {own : String} {n0 b L k0 s0 : Nat} {sx : Int → Int} {D : va_G} {cA : Nat → ClassId}
set_option maxHeartbeats 4000000 in
theorem stp_sound {mi : Nat} {e0 : En} {ls st ls' st' : List AV} {σ σ' : Sg} {j : Nat} (C : Cx p s m args c (mC mi) nL (mO mi) D cA)
    (hok : okI mi e0 = true) (hdc : dcE mi e0 = true) (h : stp sx L e0 ls st σ = some (j, ls', st', σ')) (hin : (mY mi).name = "<init>" → meth.name = "<init>") (hfr : mF mi ≤ R.frames) (hlo : mW mi ≤ R.locals)
    (hcl : σ'.1.length - k0 ≤ R.cells) (hsl : slN σ'.1 - s0 ≤ R.slots)
    (k : GW p l e R s m args below meth c Q nL n0 b L sx D cA k0 s0 (if j = 0 then e0.1 + e0.2.1 else spc mi (j - 1)) ls' st' σ') : GW p l e R s m args below meth c Q nL n0 b L sx D cA k0 s0 e0.1 ls st σ := by
  obtain ⟨pc, ln, ins, aux⟩ := e0
  have hd : decode (mC mi) pc = .ok (ins, ln) := of_decide_eq_true hdc
  dsimp only at k ⊢
  cases ins
  case iconst n =>
    simp only [okI, Bool.and_eq_true, decide_eq_true_eq] at hok
    obtain ⟨rfl, h2⟩ := hok
    cases h
    exact gs_iconst C hd h2 k
  case bipush n =>
    simp only [okI, Bool.and_eq_true, decide_eq_true_eq] at hok
    obtain ⟨rfl, h2⟩ := hok
    cases h
    exact gs_bipush C hd h2 k
  case sipush n =>
    simp only [okI, Bool.and_eq_true, decide_eq_true_eq] at hok
    obtain ⟨rfl, h2⟩ := hok
    cases h
    exact gs_sipush C hd h2 k
  case ldc_w i =>
    simp only [stp] at h
    obtain ⟨x, y, r, hst0, h0⟩ := a2_e h
    clear h
    subst hst0
    have h := h0
    clear h0
    cases h
    cases r with
    | nil => simp [okI] at hok
    | cons z r =>
      simp only [okI, Bool.and_eq_true, decide_eq_true_eq] at hok
      obtain ⟨rfl, h2, h3⟩ := hok
      exact gs_ldcw C hd (bigW_of (wdo_e h2) rfl) h3 k
  case ldc2_w i =>
    simp only [stp] at h
    obtain ⟨x, r, hst0, h0⟩ := a1_e h
    clear h
    subst hst0
    have h := h0
    clear h0
    cases h
    cases r with
    | nil => simp [okI] at hok
    | cons z r =>
      simp only [okI, Bool.and_eq_true, decide_eq_true_eq] at hok
      obtain ⟨rfl, h2, h3⟩ := hok
      exact gs_ldc2w C hd (bigW_of (wdo_e h2) rfl) ⟨by omega, by omega⟩ k
  case iload i =>
    simp only [stp] at h
    obtain ⟨x, hx, h⟩ := gI_e h
    cases h
    simp only [okI, decide_eq_true_eq] at hok
    subst hok
    exact gs_iload C hd hx k
  case iload_n i =>
    simp only [stp] at h
    obtain ⟨x, hx, h⟩ := gI_e h
    cases h
    simp only [okI, decide_eq_true_eq] at hok
    subst hok
    exact gs_iload_n C hd hx k
  case lload_n i =>
    simp only [stp] at h
    obtain ⟨x, hx, h⟩ := gL_e h
    cases h
    simp only [okI, decide_eq_true_eq] at hok
    subst hok
    exact gs_lload_n C hd hx k
  case aload i =>
    simp only [stp] at h
    obtain ⟨x, hx, h⟩ := gR_e h
    cases h
    simp only [okI, decide_eq_true_eq] at hok
    subst hok
    exact gs_aload C hd hx k
  case aload_n i =>
    simp only [stp] at h
    obtain ⟨x, hx, h⟩ := gR_e h
    cases h
    simp only [okI, decide_eq_true_eq] at hok
    subst hok
    exact gs_aload_n C hd hx k
  case istore i =>
    simp only [stp] at h
    obtain ⟨x, r, hst0, h0⟩ := p1I_e h
    clear h
    subst hst0
    have h := h0
    clear h0
    obtain ⟨h1, h2, h⟩ := sto1_e h
    cases h
    simp only [okI, decide_eq_true_eq] at hok
    subst hok
    exact gs_istore C hd h1 h2 k
  case istore_n i =>
    simp only [stp] at h
    obtain ⟨x, r, hst0, h0⟩ := p1I_e h
    clear h
    subst hst0
    have h := h0
    clear h0
    obtain ⟨h1, h2, h⟩ := sto1_e h
    cases h
    simp only [okI, decide_eq_true_eq] at hok
    subst hok
    exact gs_istore_n C hd h1 h2 k
  case lstore_n i =>
    simp only [stp] at h
    split at h
    · obtain ⟨h1, h2, h⟩ := sto2_e h
      cases h
      simp only [okI, decide_eq_true_eq] at hok
      subst hok
      exact gs_lstore_n C hd h1 h2 k
    · cases h
  case astore i =>
    simp only [stp] at h
    obtain ⟨x, r, hst0, h0⟩ := p1R_e h
    clear h
    subst hst0
    have h := h0
    clear h0
    obtain ⟨h1, h2, h⟩ := sto1_e h
    cases h
    simp only [okI, decide_eq_true_eq] at hok
    subst hok
    exact gs_astore C hd h1 h2 k
  case astore_n i =>
    simp only [stp] at h
    obtain ⟨x, r, hst0, h0⟩ := p1R_e h
    clear h
    subst hst0
    have h := h0
    clear h0
    obtain ⟨h1, h2, h⟩ := sto1_e h
    cases h
    simp only [okI, decide_eq_true_eq] at hok
    subst hok
    exact gs_astore_n C hd h1 h2 k
  case iinc i n =>
    simp only [stp] at h
    obtain ⟨x, hx, h⟩ := gI_e h
    obtain ⟨hr, h⟩ := ite_e h
    obtain ⟨h1, h2, h⟩ := sto1_e h
    cases h
    simp only [okI, decide_eq_true_eq] at hok
    subst hok
    exact gs_iinc C hd hx hr h2 k
  case iadd =>
    simp only [stp] at h
    obtain ⟨x, y, r, hst0, h0⟩ := p2I_e h
    clear h
    subst hst0
    have h := h0
    clear h0
    obtain ⟨hr, h⟩ := ite_e h
    cases h
    simp only [okI, decide_eq_true_eq] at hok
    subst hok
    exact gs_iadd C hd hr k
  case isub =>
    simp only [stp] at h
    obtain ⟨x, y, r, hst0, h0⟩ := p2I_e h
    clear h
    subst hst0
    have h := h0
    clear h0
    obtain ⟨hr, h⟩ := ite_e h
    cases h
    simp only [okI, decide_eq_true_eq] at hok
    subst hok
    exact gs_isub C hd hr k
  case imul =>
    simp only [stp] at h
    obtain ⟨x, y, r, hst0, h0⟩ := p2I_e h
    clear h
    subst hst0
    have h := h0
    clear h0
    obtain ⟨hr, h⟩ := ite_e h
    cases h
    simp only [okI, decide_eq_true_eq] at hok
    subst hok
    exact gs_imul C hd hr k
  case idiv =>
    simp only [stp] at h
    obtain ⟨x, y, r, hst0, h0⟩ := p2I_e h
    clear h
    subst hst0
    have h := h0
    clear h0
    obtain ⟨hr, h⟩ := ite_e h
    cases h
    simp only [okI, decide_eq_true_eq] at hok
    subst hok
    exact gs_idiv C hd hr.1 hr.2 k
  case irem =>
    simp only [stp] at h
    obtain ⟨x, y, r, hst0, h0⟩ := p2I_e h
    clear h
    subst hst0
    have h := h0
    clear h0
    obtain ⟨hr, h⟩ := ite_e h
    cases h
    simp only [okI, decide_eq_true_eq] at hok
    subst hok
    exact gs_irem C hd hr.1 hr.2 k
  case ineg =>
    simp only [stp] at h
    obtain ⟨x, r, hst0, h0⟩ := p1I_e h
    clear h
    subst hst0
    have h := h0
    clear h0
    obtain ⟨hr, h⟩ := ite_e h
    cases h
    simp only [okI, decide_eq_true_eq] at hok
    subst hok
    exact gs_ineg C hd hr k
  case iand =>
    simp only [stp] at h
    obtain ⟨x, y, r, hst0, h0⟩ := p2I_e h
    clear h
    subst hst0
    have h := h0
    clear h0
    cases h
    simp only [okI, decide_eq_true_eq] at hok
    subst hok
    exact gs_iand C hd k
  case ior =>
    simp only [stp] at h
    obtain ⟨x, y, r, hst0, h0⟩ := p2I_e h
    clear h
    subst hst0
    have h := h0
    clear h0
    cases h
    simp only [okI, decide_eq_true_eq] at hok
    subst hok
    exact gs_ior C hd k
  case ixor =>
    simp only [stp] at h
    obtain ⟨x, y, r, hst0, h0⟩ := p2I_e h
    clear h
    subst hst0
    have h := h0
    clear h0
    cases h
    simp only [okI, decide_eq_true_eq] at hok
    subst hok
    exact gs_ixor C hd k
  case ishl =>
    simp only [stp] at h
    obtain ⟨x, y, r, hst0, h0⟩ := p2I_e h
    clear h
    subst hst0
    have h := h0
    clear h0
    obtain ⟨hr, h⟩ := ite_e h
    cases h
    simp only [okI, decide_eq_true_eq] at hok
    subst hok
    exact gs_ishl C hd hr.1 hr.2.1 hr.2.2.1 hr.2.2.2 k
  case ishr =>
    simp only [stp] at h
    obtain ⟨x, y, r, hst0, h0⟩ := p2I_e h
    clear h
    subst hst0
    have h := h0
    clear h0
    obtain ⟨hr, h⟩ := ite_e h
    cases h
    simp only [okI, decide_eq_true_eq] at hok
    subst hok
    exact gs_ishr C hd hr.1 hr.2.1 hr.2.2 k
  case iushr =>
    simp only [stp] at h
    obtain ⟨x, y, r, hst0, h0⟩ := p2I_e h
    clear h
    subst hst0
    have h := h0
    clear h0
    obtain ⟨hr, h⟩ := ite_e h
    cases h
    simp only [okI, decide_eq_true_eq] at hok
    subst hok
    exact gs_iushr C hd hr.1 hr.2.1 hr.2.2 k
  case i2l =>
    simp only [stp] at h
    obtain ⟨x, r, hst0, h0⟩ := p1I_e h
    clear h
    subst hst0
    have h := h0
    clear h0
    cases h
    simp only [okI, decide_eq_true_eq] at hok
    subst hok
    exact gs_i2l C hd k
  case i2b =>
    simp only [stp] at h
    obtain ⟨x, r, hst0, h0⟩ := p1I_e h
    clear h
    subst hst0
    have h := h0
    clear h0
    cases h
    simp only [okI, decide_eq_true_eq] at hok
    subst hok
    exact gs_i2b C hd k
  case i2s =>
    simp only [stp] at h
    obtain ⟨x, r, hst0, h0⟩ := p1I_e h
    clear h
    subst hst0
    have h := h0
    clear h0
    cases h
    simp only [okI, decide_eq_true_eq] at hok
    subst hok
    exact gs_i2s C hd k
  case ladd =>
    simp only [stp] at h
    obtain ⟨x, y, r, hst0, h0⟩ := p2L_e h
    clear h
    subst hst0
    have h := h0
    clear h0
    cases h
    simp only [okI, decide_eq_true_eq] at hok
    subst hok
    exact gs_ladd C hd k
  case lmul =>
    simp only [stp] at h
    obtain ⟨x, y, r, hst0, h0⟩ := p2L_e h
    clear h
    subst hst0
    have h := h0
    clear h0
    cases h
    simp only [okI, decide_eq_true_eq] at hok
    subst hok
    exact gs_lmul C hd k
  case lcmp =>
    simp only [stp] at h
    obtain ⟨x, y, r, hst0, h0⟩ := p2L_e h
    clear h
    subst hst0
    have h := h0
    clear h0
    cases h
    simp only [okI, decide_eq_true_eq] at hok
    subst hok
    exact gs_lcmp C hd k
  case dup =>
    simp only [stp] at h
    split at h
    · obtain ⟨hr, h⟩ := ite_e h
      cases h
      simp only [okI, decide_eq_true_eq] at hok
      subst hok
      exact gs_dup C hd hr k
    · cases h
  case dup2 =>
    simp only [stp] at h
    split at h
    · obtain ⟨hr, h⟩ := ite_e h
      cases h
      simp only [okI, decide_eq_true_eq] at hok
      subst hok
      exact gs_dup2 C hd hr.1 hr.2 k
    · cases h
  case goto off =>
    simp only [stp] at h
    obtain ⟨x, r, hst0, h0⟩ := a1_e h
    clear h
    subst hst0
    have h := h0
    clear h0
    cases h
    simp only [okI, Bool.and_eq_true, decide_eq_true_eq] at hok
    obtain ⟨rfl, h2⟩ := hok
    exact gs_goto C hd (tgo_e h2).1 k
  case ifCond c0 off =>
    simp only [stp] at h
    obtain ⟨x, r, hst0, h0⟩ := p1I_e h
    clear h
    subst hst0
    have h := h0
    clear h0
    obtain ⟨y, r2, hst0, h0⟩ := a1_e h
    clear h
    subst hst0
    have h := h0
    clear h0
    cases h
    simp only [okI, Bool.and_eq_true, decide_eq_true_eq] at hok
    obtain ⟨rfl, h2⟩ := hok
    exact gs_if C hd (tgo_e h2).1 (fun q => by rw [if_pos q] at k; exact k) (fun q => by rw [if_neg q] at k; exact k)
  case if_icmp c0 off =>
    simp only [stp] at h
    obtain ⟨x, x2, r, hst0, h0⟩ := p2I_e h
    clear h
    subst hst0
    have h := h0
    clear h0
    obtain ⟨y, r2, hst0, h0⟩ := a1_e h
    clear h
    subst hst0
    have h := h0
    clear h0
    cases h
    simp only [okI, Bool.and_eq_true, decide_eq_true_eq] at hok
    obtain ⟨rfl, h2⟩ := hok
    exact gs_icmp C hd (tgo_e h2).1 (fun q => by rw [if_pos q] at k; exact k) (fun q => by rw [if_neg q] at k; exact k)
  case tableswitch d lo hi offs =>
    simp only [stp] at h
    obtain ⟨x, r, hst0, h0⟩ := p1I_e h
    clear h
    subst hst0
    have h := h0
    clear h0
    cases h
    simp only [okI, Bool.and_eq_true, decide_eq_true_eq, List.all_eq_true, List.mem_range] at hok
    obtain ⟨⟨h1, h2⟩, h3⟩ := hok
    rw [if_neg (Nat.succ_ne_zero _), Nat.add_sub_cancel] at k
    by_cases hx : lo ≤ x ∧ x ≤ hi
    · rw [if_pos hx] at k
      have hlt : (x - lo).toNat < offs.toList.length := by omega
      have h4 := h3 _ hlt
      refine gs_tswIn C hd hx.1 hx.2 (off := offs.toList.getD (x - lo).toNat 0) ?_ (tgo_e h4).1 k
      rw [← Array.getElem?_toList, List.getD_eq_getElem?_getD, List.getElem?_eq_getElem hlt]
      rfl
    · rw [if_neg hx] at k
      exact gs_tswOut C hd (by omega) (tgo_e h1).1 k
  case lookupswitch d ps =>
    simp only [stp] at h
    obtain ⟨x, r, hst0, h0⟩ := p1I_e h
    clear h
    subst hst0
    have h := h0
    clear h0
    cases h
    simp only [okI, Bool.and_eq_true] at hok
    obtain ⟨⟨h1, h2⟩, h3⟩ := hok
    rw [if_neg (Nat.succ_ne_zero _), Nat.add_sub_cancel] at k
    cases hk : lks ps.toList x with
    | zero =>
      rw [hk] at k
      refine gs_lsw C hd h1 (off := d) ?_ (tgo_e h2).1 k
      rw [lks_off, hk]
    | succ q =>
      rw [hk] at k
      have h4 := List.all_eq_true.mp h3 q (List.mem_range.mpr (lks_lt _ _ hk))
      refine gs_lsw C hd h1 (off := (ps.toList.getD q (0, 0)).2) ?_ (tgo_e h4).1 k
      rw [lks_off, hk]
  case getfield i =>
    simp only [stp] at h
    obtain ⟨c0, r, hst0, h0⟩ := p1R_e h
    clear h
    subst hst0
    have h := h0
    clear h0
    obtain ⟨ci, kk, r2, hst0, h0⟩ := a2_e h
    clear h
    subst hst0
    have h := h0
    clear h0
    obtain ⟨kd, n, hK, h⟩ := kd_e h
    obtain ⟨⟨hst1, q2, q3⟩, h0⟩ := ite_e h
    clear h
    subst hst1
    have h := h0
    clear h0
    cases h
    cases r2 with
    | nil => simp [okI] at hok
    | cons z r2 =>
      simp only [okI, Bool.and_eq_true, decide_eq_true_eq] at hok
      obtain ⟨rfl, h2⟩ := hok
      exact gs_get C hd hK q2 q3 (fldo_e h2).1 k
  case putfield i =>
    simp only [stp] at h
    split at h
    · obtain ⟨ci, kk, r2, hst0, h0⟩ := a2_e h
      clear h
      subst hst0
      have h := h0
      clear h0
      obtain ⟨kd, n, hK, h⟩ := kd_e h
      obtain ⟨⟨hst1, q2, q3⟩, h0⟩ := ite_e h
      clear h
      subst hst1
      have h := h0
      clear h0
      cases r2 with
      | nil => simp [okI] at hok
      | cons z r2 =>
        simp only [okI, Bool.and_eq_true, decide_eq_true_eq, Bool.or_eq_true] at hok
        obtain ⟨rfl, h2, h3⟩ := hok
        have hfin : finW (mO mi) i meth ((clD kd).2.1 kk) := by
          rcases Bool.eq_false_or_eq_true ((clD kd).2.1 kk).2.2.2 with hb | hb
          · rcases h3 with h3 | ⟨⟨h3, h4⟩, h5⟩
            · rw [h3] at hb; cases hb
            · exact Or.inr ⟨hb, hin h3, h4, bigW_of (wdo_e h5) rfl⟩
          · exact Or.inl hb
        by_cases hf : ftk kd kk = 2
        · rw [if_pos hf] at h
          obtain ⟨x, hst0, h0⟩ := oR_e h
          clear h
          subst hst0
          have h := h0
          clear h0
          cases h
          exact gs_putR C hd hK q2 q3 (fldo_e h2).1 hfin hf k
        · rw [if_neg hf] at h
          obtain ⟨x, hst0, h0⟩ := oI_e h
          clear h
          subst hst0
          have h := h0
          clear h0
          obtain ⟨hx, h⟩ := ite_e h
          cases h
          exact gs_putI C hd hK q2 q3 (fldo_e h2).1 hfin hf hx k
    · cases h
  case iaload =>
    simp only [stp] at h
    obtain ⟨i, c0, r, hst0, h0⟩ := p2IR_e h
    clear h
    subst hst0
    have h := h0
    clear h0
    simp only [okI, decide_eq_true_eq] at hok
    subst hok
    cases c0 with
    | zero =>
      obtain ⟨hx, h⟩ := ite_e h
      cases h
      exact gs_sld C hd hx.1 hx.2 k
    | succ c0 =>
      obtain ⟨kd, n, hK, h⟩ := kd_e h
      obtain ⟨⟨hst1, q2, q3⟩, h0⟩ := ite_e h
      clear h
      subst hst1
      have h := h0
      clear h0
      cases h
      exact gs_iald C hd hK q2 q3 k
  case baload =>
    simp only [stp] at h
    obtain ⟨i, c0, r, hst0, h0⟩ := p2IR_e h
    clear h
    subst hst0
    have h := h0
    clear h0
    simp only [okI, decide_eq_true_eq] at hok
    subst hok
    cases c0 with
    | zero => cases h
    | succ c0 =>
      obtain ⟨kd, n, hK, h⟩ := kd_e h
      obtain ⟨⟨hst1, q2, q3⟩, h0⟩ := ite_e h
      clear h
      subst hst1
      have h := h0
      clear h0
      cases h
      exact gs_zald C hd hK q2 q3 k
  case aaload =>
    simp only [stp] at h
    obtain ⟨i, c0, r, hst0, h0⟩ := p2IR_e h
    clear h
    subst hst0
    have h := h0
    clear h0
    simp only [okI, decide_eq_true_eq] at hok
    subst hok
    cases c0 with
    | zero => cases h
    | succ c0 =>
      obtain ⟨kd, n, hK, h⟩ := kd_e h
      obtain ⟨⟨q0, q1, q2, q3⟩, h⟩ := ite_e h
      cases h
      exact gs_qald C hd hK q0 q1 q2 q3 k
  case iastore =>
    simp only [stp] at h
    obtain ⟨v, i, c0, r, hst0, h0⟩ := p3_e h
    clear h
    subst hst0
    have h := h0
    clear h0
    obtain ⟨x, hst0, h0⟩ := oI_e h
    clear h
    subst hst0
    have h := h0
    clear h0
    obtain ⟨kd, n, hK, h⟩ := kd_e h
    obtain ⟨⟨hst1, q2, q3⟩, h0⟩ := ite_e h
    clear h
    subst hst1
    have h := h0
    clear h0
    cases h
    simp only [okI, decide_eq_true_eq] at hok
    subst hok
    exact gs_iast C hd hK q2 q3 k
  case bastore =>
    simp only [stp] at h
    obtain ⟨v, i, c0, r, hst0, h0⟩ := p3_e h
    clear h
    subst hst0
    have h := h0
    clear h0
    obtain ⟨x, hst0, h0⟩ := oI_e h
    clear h
    subst hst0
    have h := h0
    clear h0
    obtain ⟨kd, n, hK, h⟩ := kd_e h
    obtain ⟨⟨hst1, q2, q3, q4⟩, h0⟩ := ite_e h
    clear h
    subst hst1
    have h := h0
    clear h0
    cases h
    simp only [okI, decide_eq_true_eq] at hok
    subst hok
    exact gs_zast C hd hK q2 q3 q4 k
  case aastore =>
    simp only [stp] at h
    obtain ⟨v, i, c0, r, hst0, h0⟩ := p3_e h
    clear h
    subst hst0
    have h := h0
    clear h0
    obtain ⟨x, hst0, h0⟩ := oR_e h
    clear h
    subst hst0
    have h := h0
    clear h0
    simp only [okI, decide_eq_true_eq] at hok
    subst hok
    split at h
    · split at h
      · obtain ⟨⟨q0, q1, q2, q3, q4⟩, h⟩ := ite_e h
        cases h
        subst q2
        exact gs_qast C hd (by assumption) q0 q1 (by assumption) q3 q4 k
      · cases h
    · cases h
  case arraylength =>
    simp only [okI, decide_eq_true_eq] at hok
    subst hok
    simp only [stp] at h
    split at h
    · cases h
      exact gs_slen C hd k
    · obtain ⟨kd, n, hK, h⟩ := kd_e h
      obtain ⟨⟨q0, q1⟩, h⟩ := ite_e h
      cases h
      exact gs_alen C hd hK q0 q1 k
    · cases h
  case new i =>
    simp only [stp] at h
    obtain ⟨ci, r, hst0, h0⟩ := a1_e h
    clear h
    subst hst0
    have h := h0
    clear h0
    obtain ⟨hci, h⟩ := ite_e h
    cases h
    cases r with
    | nil => simp [okI] at hok
    | cons z r =>
      simp only [okI, Bool.and_eq_true, decide_eq_true_eq] at hok
      obtain ⟨rfl, h1, h2⟩ := hok
      intro H locs lsA I hW hL hl h1' h2' h3'
      simp only [List.length_append, List.length_singleton, slN_push] at hcl hsl
      exact gs_new C hd hci (bigW_of (wdo_e h2) rfl) (hw_inst ci hci) (hw_init ci hci) (by omega) (by omega) k H locs lsA I hW hL hl h1' h2' h3'
  case newarray t =>
    simp only [stp] at h
    obtain ⟨x, r, hst0, h0⟩ := p1I_e h
    clear h
    subst hst0
    have h := h0
    clear h0
    obtain ⟨⟨q0, q1, q2⟩, h⟩ := ite_e h
    cases h
    simp only [okI, decide_eq_true_eq] at hok
    subst hok
    intro H locs lsA I hW hL hl h1' h2' h3'
    simp only [List.length_append, List.length_singleton, slN_push] at hcl hsl
    rcases q2 with rfl | rfl
    · exact gs_newarr (ty := .int) C hd (Or.inl ⟨rfl, rfl, rfl⟩) hw_ai q0 q1 (by omega) (by omega) k H locs lsA I hW hL hl h1' h2' h3'
    · exact gs_newarr (ty := .boolean) C hd (Or.inr ⟨rfl, rfl, rfl⟩) hw_az q0 q1 (by omega) (by omega) k H locs lsA I hW hL hl h1' h2' h3'
  case anewarray i =>
    simp only [stp] at h
    obtain ⟨x, r, hst0, h0⟩ := p1I_e h
    clear h
    subst hst0
    have h := h0
    clear h0
    obtain ⟨kd, r2, hst0, h0⟩ := a1_e h
    clear h
    subst hst0
    have h := h0
    clear h0
    obtain ⟨⟨q0, q1, q2, q3⟩, h⟩ := ite_e h
    cases h
    cases r2 with
    | nil => simp [okI] at hok
    | cons z r2 =>
      simp only [okI, Bool.and_eq_true, decide_eq_true_eq] at hok
      obtain ⟨rfl, h1, h2⟩ := hok
      intro H locs lsA I hW hL hl h1' h2' h3'
      simp only [List.length_append, List.length_singleton, slN_push] at hcl hsl
      exact gs_newq C hd q2 q3 (bigW_of (wdo_e h2) rfl) q0 q1 (by omega) (by omega) k H locs lsA I hW hL hl h1' h2' h3'
  case invokestatic i =>
    simp only [stp] at h
    obtain ⟨t, r, hst0, h0⟩ := a1_e h
    clear h
    subst hst0
    have h := h0
    clear h0
    have key : r.length = 1 → ln = 3 ∧ 1 ≤ mF mi ∧ 21 ≤ mW mi ∧ ∃ hh, r = [hh] ∧ ((t = 1000 ∧ lw_tbl[hh]? = some (.methodLink (mO mi) i arraycopyName) ∧ 40 ≤ mW mi) ∨ (t = 1002 ∧ lw_tbl[hh]? = some (.methodLink (mO mi) i Lib.Math.max.name)) ∨ (t = 1003 ∧ lw_tbl[hh]? = some (.methodLink (mO mi) i Lib.Math.min.name))) := by
      intro hr
      match r, hr with
      | [hh], _ =>
        simp only [okI, Bool.and_eq_true, Bool.or_eq_true, decide_eq_true_eq] at hok
        obtain ⟨h1, ⟨h2, h3⟩, h4⟩ := hok
        refine ⟨h1, h3, h4, hh, rfl, ?_⟩
        rcases h2 with (⟨⟨h2, h5⟩, h6⟩ | ⟨h2, h5⟩) | ⟨h2, h5⟩
        · exact Or.inl ⟨h2, wdo_e h5, h6⟩
        · exact Or.inr (Or.inl ⟨h2, wdo_e h5⟩)
        · exact Or.inr (Or.inr ⟨h2, wdo_e h5⟩)
    have key2 : r.length ≠ 1 → t < 227 := by
      intro hr
      match r, hr with
      | [], _ => simp [okI] at hok
      | hh :: np :: r2, _ =>
        simp only [okI, depo, Bool.and_eq_true, decide_eq_true_eq] at hok
        exact hok.2.1.2.1.1.1
    have key3 : 1000 ≤ t → r.length = 1 := fun ht => Decidable.byContradiction fun q => by have := key2 q; omega
    split at h
    · next ht =>
      subst ht
      obtain ⟨rfl, k1, k2, hh, rfl, k3⟩ := key (key3 (by omega))
      rcases k3 with ⟨-, k3, k4⟩ | ⟨k3, -⟩ | ⟨k3, -⟩
      · split at h
        · split at h
          · obtain ⟨⟨hst1, hst2, q1, q2, q3, q4, q5⟩, h0⟩ := ite_e h
            clear h
            subst hst1
            subst hst2
            cases h0
            exact gs_copy C hd (bigW_of k3 rfl) hw_nat hw_acs hw_sys (by assumption) (by assumption) q1 q2 q3 q4 q5 (by omega) (by omega) k
          · cases h
        · cases h
      · omega
      · omega
    · split at h
      · next ht =>
        subst ht
        obtain ⟨rfl, k1, k2, hh, rfl, k3⟩ := key (key3 (by omega))
        obtain ⟨x, y, r, hst0, h0⟩ := p2I_e h
        clear h
        subst hst0
        have h := h0
        clear h0
        obtain ⟨hs, h⟩ := ite_e h
        cases h
        rcases k3 with ⟨k3, -⟩ | ⟨-, k3⟩ | ⟨k3, -⟩
        · omega
        · exact gs_mmax C hd (bigW_of k3 rfl) hw_maxs hw_mth hw_maxc hs (by omega) (by omega) hcl hsl k
        · omega
      · split at h
        · next ht =>
          subst ht
          obtain ⟨rfl, k1, k2, hh, rfl, k3⟩ := key (key3 (by omega))
          obtain ⟨x, y, r, hst0, h0⟩ := p2I_e h
          clear h
          subst hst0
          have h := h0
          clear h0
          obtain ⟨hs, h⟩ := ite_e h
          cases h
          rcases k3 with ⟨k3, -⟩ | ⟨k3, -⟩ | ⟨-, k3⟩
          · omega
          · omega
          · exact gs_mmin C hd (bigW_of k3 rfl) hw_mins hw_mth hw_minc hs (by omega) (by omega) hcl hsl k
        · cases h
  case invokespecial i =>
    simp only [stp] at h
    obtain ⟨t, r, hst0, h0⟩ := a1_e h
    clear h
    subst hst0
    have h := h0
    clear h0
    obtain ⟨ht, h⟩ := ite_e h
    subst ht
    obtain ⟨c0, r3, hst0, h0⟩ := p1R_e h
    clear h
    subst hst0
    have h := h0
    clear h0
    obtain ⟨hs, h⟩ := ite_e h
    cases h
    match r, hok with
    | [], hok => simp [okI] at hok
    | [hh], hok =>
      simp only [okI, Bool.and_eq_true, decide_eq_true_eq] at hok
      obtain ⟨rfl, ⟨⟨-, h2⟩, h3⟩, h4⟩ := hok
      exact gs_objinit C hd (bigW_of (wdo_e h2) rfl) hw_oii hw_oic hs (by omega) (by omega) k
    | hh :: np :: r2, hok =>
      simp only [okI, depo, Bool.and_eq_true, decide_eq_true_eq] at hok
      have := hok.2.1.1.1.1.1.2.1.1.1
      omega
  all_goals (exfalso; simp [stp] at h)
end SS
