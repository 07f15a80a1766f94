def ck2 (e : En) : Bool := match e.2.2.1 with
  | .invokestatic _ => match e.2.2.2 with
    | mi' :: _ :: np :: _ => decide (np ≤ mL mi')
    | _ => true
  | .invokevirtual _ => match e.2.2.2 with
    | mi' :: _ :: np :: _ => decide (np + 1 ≤ mL mi')
    | _ => true
  | .tableswitch _ lo hi _ => decide (hi - lo + 2 ≤ (e.2.2.2.length : Int))
  | .lookupswitch _ ps => decide (ps.toList.length + 1 ≤ e.2.2.2.length)
  | _ => true
section EW
theorem w1I_e {st : List AV} {f : Int → List AV → Prop} (h : w1I st f) : ∃ x r, st = vI x :: r ∧ f x r := by
  unfold w1I at h
  split at h
  · exact ⟨_, _, rfl, h⟩
  · exact h.elim
theorem w2I_e {st : List AV} {f : Int → Int → List AV → Prop} (h : w2I st f) : ∃ x y r, st = vI y :: vI x :: r ∧ f x y r := by
  unfold w2I at h
  split at h
  · exact ⟨_, _, _, rfl, h⟩
  · exact h.elim
theorem w2L_e {st : List AV} {f : Int → Int → List AV → Prop} (h : w2L st f) : ∃ x y r, st = vL y :: vL x :: r ∧ f x y r := by
  unfold w2L at h
  split at h
  · exact ⟨_, _, _, rfl, h⟩
  · exact h.elim
theorem w1L_e {st : List AV} {f : Int → List AV → Prop} (h : w1L st f) : ∃ x r, st = vL x :: r ∧ f x r := by
  unfold w1L at h
  split at h
  · exact ⟨_, _, rfl, h⟩
  · exact h.elim
theorem w1R_e {st : List AV} {f : Nat → List AV → Prop} (h : w1R st f) : ∃ c r, st = vR (c + 2) :: r ∧ f c r := by
  unfold w1R at h
  split at h
  · exact ⟨_, _, rfl, h⟩
  · exact h.elim
theorem wIR_e {st : List AV} {f : Int → Nat → List AV → Prop} (h : wIR st f) : ∃ j c r, st = vI j :: vR (c + 2) :: r ∧ f j c r := by
  unfold wIR at h
  split at h
  · exact ⟨_, _, _, rfl, h⟩
  · exact h.elim
theorem wIX_e {st : List AV} {f : Int → List AV → Prop} {g : Int → Nat → List AV → Prop} (h : wIX st f g) : (∃ j r, st = vI j :: vR 1 :: r ∧ f j r) ∨ ∃ j c r, st = vI j :: vR (c + 2) :: r ∧ g j c r := by
  unfold wIX at h
  split at h
  · exact Or.inl ⟨_, _, rfl, h⟩
  · exact Or.inr ⟨_, _, _, rfl, h⟩
  · exact h.elim
theorem wIIR_e {st : List AV} {f : Int → Int → Nat → List AV → Prop} (h : wIIR st f) : ∃ x j c r, st = vI x :: vI j :: vR (c + 2) :: r ∧ f x j c r := by
  unfold wIIR at h
  split at h
  · exact ⟨_, _, _, _, rfl, h⟩
  · exact h.elim
theorem wPF_e {st : List AV} {f : Int → Nat → List AV → Prop} (h : wPF st f) : ∃ x c r, st = vI x :: vR (c + 2) :: r ∧ f x c r := by
  unfold wPF at h
  split at h
  · exact ⟨_, _, _, rfl, h⟩
  · exact h.elim
theorem wAL_e {st : List AV} {f : List AV → Prop} {g : Nat → List AV → Prop} (h : wAL st f g) : (∃ r, st = vR 1 :: r ∧ f r) ∨ ∃ c r, st = vR (c + 2) :: r ∧ g c r := by
  unfold wAL at h
  split at h
  · exact Or.inl ⟨_, rfl, h⟩
  · exact Or.inr ⟨_, _, rfl, h⟩
  · exact h.elim
theorem lI_e {ls : List AV} {i : Nat} {f : Int → Prop} (h : lI ls i f) : ∃ x, ls[i]? = some (vI x) ∧ f x := by
  unfold lI at h
  split at h
  · exact ⟨_, by assumption, h⟩
  · exact h.elim
theorem lL_e {ls : List AV} {i : Nat} {f : Int → Prop} (h : lL ls i f) : ∃ x, ls[i]? = some (vL x) ∧ f x := by
  unfold lL at h
  split at h
  · exact ⟨_, by assumption, h⟩
  · exact h.elim
theorem lR_e {ls : List AV} {i : Nat} {f : Nat → Prop} (h : lR ls i f) : ∃ r, ls[i]? = some (vR (r + 1)) ∧ f (r + 1) := by
  unfold lR at h
  split at h
  · exact ⟨_, by assumption, h⟩
  · exact h.elim
theorem wA1_e {a : List Nat} {f : Nat → Prop} (h : wA1 a f) : ∃ x r, a = x :: r ∧ f x := by
  unfold wA1 at h
  split at h
  · exact ⟨_, _, rfl, h⟩
  · exact h.elim
theorem wA2_e {a : List Nat} {f : Nat → Nat → Prop} (h : wA2 a f) : ∃ x y r, a = x :: y :: r ∧ f x y := by
  unfold wA2 at h
  split at h
  · exact ⟨_, _, _, rfl, h⟩
  · exact h.elim
theorem dpU_e {st : List AV} {f : AV → List AV → Prop} (h : dpU st f) : ∃ v r, st = v :: r ∧ cat2 v = false ∧ f v r := by
  unfold dpU at h
  split at h
  · exact ⟨_, _, rfl, h⟩
  · exact h.elim
theorem dp2_e {st : List AV} {f : AV → AV → List AV → Prop} (h : dp2 st f) : ∃ v w r, st = v :: w :: r ∧ (cat2 v = false ∧ cat2 w = false) ∧ f v w r := by
  unfold dp2 at h
  split at h
  · exact ⟨_, _, _, rfl, h⟩
  · exact h.elim
theorem cpy5_e {st : List AV} {f : Int → Int → Nat → Int → Nat → Prop} (h : cpy5 st f) : ∃ n dp d sp c, st = [vI n, vI dp, vR (d + 2), vI sp, vR (c + 2)] ∧ f n dp d sp c := by
  unfold cpy5 at h
  split at h
  · exact ⟨_, _, _, _, _, rfl, h⟩
  · exact h.elim
theorem pops_e : ∀ (n : Nat) (st acc : List AV) (f : List AV → List AV → Prop), pops n st acc f → n ≤ st.length ∧ (∀ v ∈ st.take n, cat2 v = false) ∧ f ((st.take n).reverse ++ acc) (st.drop n) := by
  intro n
  induction n with
  | zero => intro st acc f h; exact ⟨Nat.zero_le _, by simp, by simpa [pops] using h⟩
  | succ n ih =>
    intro st acc f h
    cases st with
    | nil => exact h.elim
    | cons v st =>
      obtain ⟨h1, h2⟩ := h
      obtain ⟨h3, h4, h5⟩ := ih st (v :: acc) f h2
      refine ⟨by simp; omega, fun w hw => ?_, ?_⟩
      · rw [List.take_succ_cons] at hw
        rcases List.mem_cons.mp hw with rfl | hw
        · exact h1
        · exact h4 w hw
      · simpa [List.append_assoc] using h5
theorem swt_e {f : Nat → Prop} {x : Int} : ∀ (js : List Nat) (k : Int), swt f x k js → ∀ i, i < js.length → x = k + i → f (js.getD i 0) := by
  intro js
  induction js with
  | nil => intro k _ i hi; simp at hi
  | cons j r ih =>
    intro k h i hi hx
    cases i with
    | zero => simpa using h.1 (by omega)
    | succ i =>
      simp only [List.length_cons] at hi
      have := ih (k + 1) h.2 i (by omega) (by omega)
      simpa using this
theorem lsw_e {f : Nat → Prop} {x : Int} : ∀ (ps : List (Int × Int)) (js : List Nat), ps.length ≤ js.length → lsw f x ps js → ∀ k, lks ps x = k + 1 → f (js.getD k 0) := by
  intro ps
  induction ps with
  | nil => intro js _ _ k hk; simp [lks] at hk
  | cons q ps ih =>
    intro js hl h k hk
    cases js with
    | nil => exact h.elim
    | cons j r =>
      simp only [lks] at hk
      split at hk
      · next hx =>
        have : k = 0 := by omega
        subst this
        simpa using h.1 hx
      · next hx =>
        split at hk
        · cases hk
        · next k2 hk2 =>
          have : k = k2 + 1 := by omega
          subst this
          simpa using ih r (by simpa using hl) (h.2 hx) k2 hk2
theorem lno_e {x : Int} : ∀ (ps : List (Int × Int)), lks ps x = 0 → lno x ps := by
  intro ps
  induction ps with
  | nil => intro _; trivial
  | cons q ps ih =>
    intro h
    simp only [lks] at h
    split at h
    · cases h
    · next hx =>
      split at h
      · next h2 => exact ⟨hx, ih h2⟩
      · cases h
theorem cdP_iff (c : Jvm.ClassFile.Cond) (x y : Int) : cnd c x y = true ↔ cdP c x y := by cases c <;> simp [cnd, cdP]
end EW
section WS
variable {sx : Int → Int} {L : Nat} {K : List (Nat × Nat)} {R : Rfs} {mi : Nat} {Q : Option AV → Mem → Prop}
theorem Re_step {e0 : En} {es : List En} {fl : Nat} {ls st ls' st' : List AV} {M M' : Mem} (hr : rtV mi e0 st = none) (hc : clV e0 st (K, R, M) = none) (hs : stp sx L e0 ls st (K, R, M) = some (0, ls', st', (K, R, M'))) (k : Re sx L K R mi es fl ls' st' M' Q) : Re sx L K R mi (e0 :: es) fl ls st M Q := by
  obtain ⟨n, rv, M2, h, hq⟩ := k
  exact ⟨n + 1, rv, M2, by simp only [run, hr, hc, hs]; exact h, hq⟩
theorem Re_jump {e0 : En} {es : List En} {fl j : Nat} {ls st ls' st' : List AV} {M M' : Mem} (hr : rtV mi e0 st = none) (hc : clV e0 st (K, R, M) = none) (hs : stp sx L e0 ls st (K, R, M) = some (j + 1, ls', st', (K, R, M'))) (k : Rn sx L K R mi j ls' st' M' Q) : Re sx L K R mi (e0 :: es) fl ls st M Q := by
  obtain ⟨n, rv, M2, h, hq⟩ := k
  exact ⟨n + 1, rv, M2, by simp only [run, hr, hc, hs]; exact h, hq⟩
theorem Re_call {e0 : En} {es : List En} {fl mi' : Nat} {ls st av rest : List AV} {M : Mem} (hr : rtV mi e0 st = none) (hc : clV e0 st (K, R, M) = some (mi', av, rest)) (k : Mq sx L K R mi' av M (fun rv M' => Re sx L K R mi es fl ls (rv.toList ++ rest) M' Q)) : Re sx L K R mi (e0 :: es) fl ls st M Q := by
  obtain ⟨n, rv, M2, h, n2, rv2, M3, h2, hq⟩ := k
  refine ⟨n + n2 + 1, rv2, M3, ?_, hq⟩
  have e1 := run_up _ _ _ _ _ _ _ _ h n2
  have e2 := run_up _ _ _ _ _ _ _ _ h2 n
  rw [Nat.add_comm] at e2
  simp only [run, hr, hc, e1]
  exact e2
theorem Re_ret {e0 : En} {es : List En} {fl : Nat} {ls st : List AV} {M : Mem} {rv : Option AV} (hr : rtV mi e0 st = some rv) (k : Q rv M) : Re sx L K R mi (e0 :: es) fl ls st M Q := ⟨1, rv, M, by simp only [run, hr], k⟩
theorem Re.mono {es : List En} {fl : Nat} {ls st : List AV} {M : Mem} {Q' : Option AV → Mem → Prop} (h : Re sx L K R mi es fl ls st M Q) (hq : ∀ rv M', Q rv M' → Q' rv M') : Re sx L K R mi es fl ls st M Q' := by
  obtain ⟨n, rv, M2, h, h2⟩ := h
  exact ⟨n, rv, M2, h, hq _ _ h2⟩
theorem Mq.mono {av : List AV} {M : Mem} {Q' : Option AV → Mem → Prop} (h : Mq sx L K R mi av M Q) (hq : ∀ rv M', Q rv M' → Q' rv M') : Mq sx L K R mi av M Q' := Re.mono h hq
theorem rvk_e {k : Nat} {f : List AV → Mem → Prop} {rv : Option AV} {M' : Mem} (h : rvk k f rv M') : f rv.toList M' := by
  unfold rvk at h
  split at h
  · obtain ⟨rfl, h⟩ := h; exact h
  · obtain ⟨x, rfl, h⟩ := h; exact h
  · obtain ⟨x, rfl, h⟩ := h; exact h
  · obtain ⟨x, rfl, h⟩ := h; exact h
  · obtain ⟨x, rfl, h⟩ := h; exact h
  · exact h.elim
theorem s1_e {ls : List AV} {i : Nat} {v : AV} {f : List AV → Prop} {g : List AV → Rs} (h : s1 ls i v f) : sto1 ls i v g = g (ls.set i v) ∧ f (ls.set i v) := ⟨by unfold sto1; rw [if_pos h.1], h.2⟩
theorem s2_e {ls : List AV} {i : Nat} {v : AV} {f : List AV → Prop} {g : List AV → Rs} (h : s2 ls i v f) : sto2 ls i v g = g ((ls.set i v).set (i + 1) vU) ∧ f ((ls.set i v).set (i + 1) vU) := ⟨by unfold sto2; rw [if_pos h.1], h.2⟩
set_option maxHeartbeats 4000000 in
theorem wpc_Re : ∀ (es : List En) (fl : Nat) (ls st : List AV) (M : Mem), okEs mi es fl = true → es.all ck2 = true → wpc sx L K R mi es fl ls st M Q → Re sx L K R mi es fl ls st M Q := by
  intro es
  induction es with
  | nil =>
    intro fl ls st M _ _ h
    obtain ⟨n, rv, M2, h, hq⟩ := h
    exact ⟨n + 1, rv, M2, h, hq⟩
  | cons e0 es ih =>
    intro fl ls st M hok hck h
    obtain ⟨pc, ln, ins, aux⟩ := e0
    simp only [okEs, Bool.and_eq_true] at hok
    obtain ⟨⟨hok, -⟩, hes⟩ := hok
    simp only [List.all_cons, Bool.and_eq_true] at hck
    obtain ⟨hk0, hck⟩ := hck
    replace ih := fun ls st M h => ih fl ls st M hes hck h
    cases ins
    case iconst n => exact Re_step rfl rfl rfl (ih _ _ _ h)
    case bipush n => exact Re_step rfl rfl rfl (ih _ _ _ h)
    case sipush n => exact Re_step rfl rfl rfl (ih _ _ _ h)
    case ldc_w i =>
      simp only [wpc] at h
      obtain ⟨x, y, r, rfl, h0⟩ := wA2_e h
      exact Re_step rfl rfl rfl (ih _ _ _ h0)
    case ldc2_w i =>
      simp only [wpc] at h
      obtain ⟨x, r, rfl, h0⟩ := wA1_e h
      exact Re_step rfl rfl rfl (ih _ _ _ h0)
    case iload i =>
      simp only [wpc] at h
      obtain ⟨x, hx, h0⟩ := lI_e h
      exact Re_step rfl rfl (by simp only [stp, gI, hx]) (ih _ _ _ h0)
    case iload_n i =>
      simp only [wpc] at h
      obtain ⟨x, hx, h0⟩ := lI_e h
      exact Re_step rfl rfl (by simp only [stp, gI, hx]) (ih _ _ _ h0)
    case lload_n i =>
      simp only [wpc] at h
      obtain ⟨x, hx, h0⟩ := lL_e h
      exact Re_step rfl rfl (by simp only [stp, gL, hx]) (ih _ _ _ h0)
    case aload i =>
      simp only [wpc] at h
      obtain ⟨x, hx, h0⟩ := lR_e h
      exact Re_step rfl rfl (by simp only [stp, gR, hx]) (ih _ _ _ h0)
    case aload_n i =>
      simp only [wpc] at h
      obtain ⟨x, hx, h0⟩ := lR_e h
      exact Re_step rfl rfl (by simp only [stp, gR, hx]) (ih _ _ _ h0)
    case istore i =>
      simp only [wpc] at h
      obtain ⟨x, r, hst, h0⟩ := w1I_e h
      subst hst
      exact Re_step rfl rfl (by simp only [stp, p1I]; exact (s1_e h0).1) (ih _ _ _ h0.2)
    case istore_n i =>
      simp only [wpc] at h
      obtain ⟨x, r, hst, h0⟩ := w1I_e h
      subst hst
      exact Re_step rfl rfl (by simp only [stp, p1I]; exact (s1_e h0).1) (ih _ _ _ h0.2)
    case lstore_n i =>
      simp only [wpc] at h
      obtain ⟨x, r, hst, h0⟩ := w1L_e h
      subst hst
      exact Re_step rfl rfl (by simp only [stp]; exact (s2_e h0).1) (ih _ _ _ h0.2)
    case astore i =>
      simp only [wpc] at h
      obtain ⟨x, r, hst, h0⟩ := w1R_e h
      subst hst
      exact Re_step rfl rfl (by simp only [stp, p1R]; exact (s1_e h0).1) (ih _ _ _ h0.2)
    case astore_n i =>
      simp only [wpc] at h
      obtain ⟨x, r, hst, h0⟩ := w1R_e h
      subst hst
      exact Re_step rfl rfl (by simp only [stp, p1R]; exact (s1_e h0).1) (ih _ _ _ h0.2)
    case iinc i n =>
      simp only [wpc] at h
      obtain ⟨x, hx, hr, h0⟩ := lI_e h
      exact Re_step rfl rfl (by simp only [stp, gI, hx]; rw [if_pos hr]; exact (s1_e h0).1) (ih _ _ _ h0.2)
    case iadd =>
      simp only [wpc] at h
      obtain ⟨x, y, r, hst, hr, h0⟩ := w2I_e h
      subst hst
      exact Re_step rfl rfl (by simp only [stp, p2I]; rw [if_pos hr]) (ih _ _ _ h0)
    case isub =>
      simp only [wpc] at h
      obtain ⟨x, y, r, hst, hr, h0⟩ := w2I_e h
      subst hst
      exact Re_step rfl rfl (by simp only [stp, p2I]; rw [if_pos hr]) (ih _ _ _ h0)
    case imul =>
      simp only [wpc] at h
      obtain ⟨x, y, r, hst, hr, h0⟩ := w2I_e h
      subst hst
      exact Re_step rfl rfl (by simp only [stp, p2I]; rw [if_pos hr]) (ih _ _ _ h0)
    case idiv =>
      simp only [wpc] at h
      obtain ⟨x, y, r, hst, hr, h0⟩ := w2I_e h
      subst hst
      exact Re_step rfl rfl (by simp only [stp, p2I]; rw [if_pos hr]) (ih _ _ _ h0)
    case irem =>
      simp only [wpc] at h
      obtain ⟨x, y, r, hst, hr, h0⟩ := w2I_e h
      subst hst
      exact Re_step rfl rfl (by simp only [stp, p2I]; rw [if_pos hr]) (ih _ _ _ h0)
    case ineg =>
      simp only [wpc] at h
      obtain ⟨x, r, hst, hr, h0⟩ := w1I_e h
      subst hst
      exact Re_step rfl rfl (by simp only [stp, p1I]; rw [if_pos hr]) (ih _ _ _ h0)
    case iand =>
      simp only [wpc] at h
      obtain ⟨x, y, r, hst, h0⟩ := w2I_e h
      subst hst
      exact Re_step rfl rfl rfl (ih _ _ _ h0)
    case ior =>
      simp only [wpc] at h
      obtain ⟨x, y, r, hst, h0⟩ := w2I_e h
      subst hst
      exact Re_step rfl rfl rfl (ih _ _ _ h0)
    case ixor =>
      simp only [wpc] at h
      obtain ⟨x, y, r, hst, h0⟩ := w2I_e h
      subst hst
      exact Re_step rfl rfl rfl (ih _ _ _ h0)
    case ishl =>
      simp only [wpc] at h
      obtain ⟨x, y, r, hst, hr, h0⟩ := w2I_e h
      subst hst
      exact Re_step rfl rfl (by simp only [stp, p2I]; rw [if_pos hr]) (ih _ _ _ h0)
    case ishr =>
      simp only [wpc] at h
      obtain ⟨x, y, r, hst, hr, h0⟩ := w2I_e h
      subst hst
      exact Re_step rfl rfl (by simp only [stp, p2I]; rw [if_pos hr]) (ih _ _ _ h0)
    case iushr =>
      simp only [wpc] at h
      obtain ⟨x, y, r, hst, hr, h0⟩ := w2I_e h
      subst hst
      exact Re_step rfl rfl (by simp only [stp, p2I]; rw [if_pos hr]) (ih _ _ _ h0)
    case i2l =>
      simp only [wpc] at h
      obtain ⟨x, r, hst, h0⟩ := w1I_e h
      subst hst
      exact Re_step rfl rfl rfl (ih _ _ _ h0)
    case i2b =>
      simp only [wpc] at h
      obtain ⟨x, r, hst, h0⟩ := w1I_e h
      subst hst
      exact Re_step rfl rfl rfl (ih _ _ _ h0)
    case i2s =>
      simp only [wpc] at h
      obtain ⟨x, r, hst, h0⟩ := w1I_e h
      subst hst
      exact Re_step rfl rfl rfl (ih _ _ _ h0)
    case ladd =>
      simp only [wpc] at h
      obtain ⟨x, y, r, hst, h0⟩ := w2L_e h
      subst hst
      exact Re_step rfl rfl rfl (ih _ _ _ h0)
    case lmul =>
      simp only [wpc] at h
      obtain ⟨x, y, r, hst, h0⟩ := w2L_e h
      subst hst
      exact Re_step rfl rfl rfl (ih _ _ _ h0)
    case lcmp =>
      simp only [wpc] at h
      obtain ⟨x, y, r, hst, h0⟩ := w2L_e h
      subst hst
      exact Re_step rfl rfl rfl (ih _ _ _ h0)
    case dup =>
      simp only [wpc] at h
      obtain ⟨v, r, hst, hr, h0⟩ := dpU_e h
      subst hst
      exact Re_step rfl rfl (by simp only [stp]; rw [if_pos hr]) (ih _ _ _ h0)
    case dup2 =>
      simp only [wpc] at h
      obtain ⟨v, w, r, hst, hr, h0⟩ := dp2_e h
      subst hst
      exact Re_step rfl rfl (by simp only [stp]; rw [if_pos hr]) (ih _ _ _ h0)
    case goto off =>
      simp only [wpc] at h
      obtain ⟨x, r, rfl, h0⟩ := wA1_e h
      exact Re_jump rfl rfl rfl h0
    case ifCond c off =>
      simp only [wpc] at h
      obtain ⟨x, r, hst, h0⟩ := w1I_e h
      subst hst
      obtain ⟨j, r2, rfl, h1, h2⟩ := wA1_e h0
      by_cases hc : cdP c x 0
      · exact Re_jump rfl rfl (by simp only [stp, p1I, a1]; rw [if_pos ((cdP_iff c x 0).mpr hc)]) (h1 hc)
      · exact Re_step rfl rfl (by simp only [stp, p1I, a1]; rw [if_neg (fun q => hc ((cdP_iff c x 0).mp q))]) (ih _ _ _ (h2 hc))
    case if_icmp c off =>
      simp only [wpc] at h
      obtain ⟨x, y, r, hst, h0⟩ := w2I_e h
      subst hst
      obtain ⟨j, r2, rfl, h1, h2⟩ := wA1_e h0
      by_cases hc : cdP c x y
      · exact Re_jump rfl rfl (by simp only [stp, p2I, a1]; rw [if_pos ((cdP_iff c x y).mpr hc)]) (h1 hc)
      · exact Re_step rfl rfl (by simp only [stp, p2I, a1]; rw [if_neg (fun q => hc ((cdP_iff c x y).mp q))]) (ih _ _ _ (h2 hc))
    case tableswitch d lo hi offs =>
      simp only [wpc] at h
      obtain ⟨x, r, hst, h0⟩ := w1I_e h
      subst hst
      cases aux with
      | nil => exact h0.elim
      | cons d0 js =>
        obtain ⟨h1, h2⟩ := h0
        simp only [okI, Bool.and_eq_true, decide_eq_true_eq, List.all_eq_true, List.mem_range] at hok
        by_cases hx : lo ≤ x ∧ x ≤ hi
        · refine Re_jump (j := (d0 :: js).getD ((x - lo).toNat + 1) 0) rfl rfl (by simp only [stp, p1I]; rw [if_pos hx]) ?_
          have hjs : (x - lo).toNat < js.length := by
            simp only [ck2, decide_eq_true_eq, List.length_cons] at hk0
            omega
          have := swt_e js lo h2 (x - lo).toNat hjs (by omega)
          simpa using this
        · exact Re_jump (j := d0) rfl rfl (by simp only [stp, p1I]; rw [if_neg hx]; rfl) (h1 (by omega))
    case lookupswitch d ps =>
      simp only [wpc] at h
      obtain ⟨x, r, hst, h0⟩ := w1I_e h
      subst hst
      cases aux with
      | nil => exact h0.elim
      | cons d0 js =>
        obtain ⟨h1, h2⟩ := h0
        cases hk : lks ps.toList x with
        | zero => exact Re_jump (j := d0) rfl rfl (by simp only [stp, p1I, hk]; rfl) (h1 (lno_e _ hk))
        | succ k =>
          refine Re_jump (j := (d0 :: js).getD (k + 1) 0) rfl rfl (by simp only [stp, p1I, hk]; rfl) ?_
          have := lsw_e ps.toList js (by simp only [ck2, decide_eq_true_eq, List.length_cons] at hk0; omega) h2 k hk
          simpa using this
    case getfield i =>
      simp only [wpc] at h
      obtain ⟨c, r, hst, h0⟩ := w1R_e h
      subst hst
      obtain ⟨ci, k, r2, rfl, ⟨n, hK⟩, h1⟩ := wA2_e h0
      cases r2 with
      | nil => simp [okI] at hok
      | cons z r2 =>
        simp only [okI, Bool.and_eq_true, decide_eq_true_eq] at hok
        have hf := fldo_e hok.2
        exact Re_step rfl rfl (by simp only [stp, p1R, a2, hK]; rw [if_pos ⟨trivial, hf.2.1, hf.2.2⟩]; rfl) (ih _ _ _ h1)
    case putfield i =>
      simp only [wpc] at h
      obtain ⟨x, c, r, hst, h0⟩ := wPF_e h
      subst hst
      obtain ⟨ci, k, r2, rfl, ⟨⟨n, hK⟩, hp⟩, h1⟩ := wA2_e h0
      cases r2 with
      | nil => simp [okI] at hok
      | cons z r2 =>
        simp only [okI, Bool.and_eq_true, decide_eq_true_eq] at hok
        have hf := fldo_e hok.2.1
        refine Re_step rfl rfl ?_ (ih _ _ _ h1)
        unfold pfc at hp
        simp only [stp, a2, hK]
        rw [if_pos ⟨trivial, hf.2.1, hf.2.2⟩]
        by_cases h0 : ftk ci k = 0
        · rw [if_neg (by omega)]
          simp only [oI]
          rw [if_pos (Or.inl h0)]
        · rw [if_neg h0] at hp
          by_cases h3 : ftk ci k = 1
          · rw [if_pos h3] at hp
            rw [if_neg (by omega)]
            simp only [oI]
            rw [if_pos (Or.inr hp)]
          · rw [if_neg h3] at hp
            exact hp.elim
    case iaload =>
      simp only [wpc] at h
      rcases wIX_e h with ⟨j, r, hst, hr, h0⟩ | ⟨j, c, r, hst, ⟨n, hK, hr⟩, h0⟩
      · subst hst
        exact Re_step rfl rfl (by simp only [stp, p2IR]; rw [if_pos hr]) (ih _ _ _ h0)
      · subst hst
        exact Re_step rfl rfl (by simp only [stp, p2IR, hK]; rw [if_pos ⟨trivial, hr.1, hr.2⟩]) (ih _ _ _ h0)
    case baload =>
      simp only [wpc] at h
      obtain ⟨j, c, r, hst, ⟨n, hK, hr⟩, h0⟩ := wIR_e h
      subst hst
      exact Re_step rfl rfl (by simp only [stp, p2IR, hK]; rw [if_pos ⟨trivial, hr.1, hr.2⟩]) (ih _ _ _ h0)
    case aaload =>
      simp only [wpc] at h
      obtain ⟨j, c, r, hst, ⟨kd, n, hK, hr⟩, h0⟩ := wIR_e h
      subst hst
      exact Re_step rfl rfl (by simp only [stp, p2IR, hK]; rw [if_pos hr]) (ih _ _ _ h0)
    case iastore =>
      simp only [wpc] at h
      obtain ⟨x, j, c, r, hst, ⟨n, hK, hr⟩, h0⟩ := wIIR_e h
      subst hst
      exact Re_step rfl rfl (by simp only [stp, p3, oI, hK]; rw [if_pos ⟨trivial, hr.1, hr.2⟩]) (ih _ _ _ h0)
    case bastore =>
      simp only [wpc] at h
      obtain ⟨x, j, c, r, hst, ⟨⟨n, hK, hr⟩, hx⟩, h0⟩ := wIIR_e h
      subst hst
      exact Re_step rfl rfl (by simp only [stp, p3, oI, hK]; rw [if_pos ⟨trivial, hr.1, hr.2, hx⟩]) (ih _ _ _ h0)
    case arraylength =>
      simp only [wpc] at h
      rcases wAL_e h with ⟨r, hst, h0⟩ | ⟨c, r, hst, n, ⟨kd, hK, hr⟩, h0⟩
      · subst hst
        exact Re_step rfl rfl rfl (ih _ _ _ h0)
      · subst hst
        exact Re_step rfl rfl (by simp only [stp, hK]; rw [if_pos hr]) (ih _ _ _ h0)
    case invokestatic i =>
      simp only [wpc] at h
      split at h
      · next t z =>
        split at h
        · next ht =>
          subst ht
          obtain ⟨n, dp, d, sp, c, hst, ⟨nc, nd, k1, k2, k3⟩, h0⟩ := cpy5_e h
          subst hst
          exact Re_step rfl rfl (by simp only [stp, a1, k1, k2, if_true]; rw [if_pos ⟨trivial, trivial, k3⟩]) (ih _ _ _ h0)
        · split at h
          · next ht =>
            subst ht
            obtain ⟨x, y, r, hst, hs, h0⟩ := w2I_e h
            subst hst
            exact Re_step rfl rfl (by simp only [stp, a1, p2I]; rw [if_neg (by decide), if_pos trivial, if_pos hs]) (ih _ _ _ h0)
          · split at h
            · next ht =>
              subst ht
              obtain ⟨x, y, r, hst, hs, h0⟩ := w2I_e h
              subst hst
              exact Re_step rfl rfl (by simp only [stp, a1, p2I]; rw [if_neg (by decide), if_neg (by decide), if_pos trivial, if_pos hs]) (ih _ _ _ h0)
            · exact h.elim
      · next mi' hh np r2 =>
        obtain ⟨h1, h2, h3, h4⟩ := pops_e _ _ _ _ h
        rw [List.append_nil] at h4
        have hnp : np ≤ mL mi' := by simpa [ck2] using hk0
        refine Re_call (av := (st.take np).reverse) (rest := st.drop np) rfl ?_ (h4.mono fun rv M' q => ih _ _ _ (rvk_e q))
        simp only [clV]
        rw [if_pos ⟨hnp, h1, by simpa using h2, h3⟩]
      · exact h.elim
    case invokevirtual i =>
      simp only [wpc] at h
      split at h
      · next mi' hh np r2 =>
        obtain ⟨h1, h2, h3⟩ := pops_e _ _ _ _ h
        obtain ⟨c, r, hst, ⟨⟨n, hK⟩, h5⟩, h4⟩ := w1R_e h3
        rw [List.append_nil] at h4
        have hnp : np + 1 ≤ mL mi' := by simpa [ck2] using hk0
        refine Re_call (av := vR (c + 2) :: (st.take np).reverse) (rest := r) rfl ?_ (h4.mono fun rv M' q => ih _ _ _ (rvk_e q))
        simp only [clV, clR]
        rw [if_pos ⟨hnp, h1, by simpa using h2⟩]
        simp only [hst, hK]
        rw [if_pos ⟨trivial, h5⟩]
      · exact h.elim
    case ireturn =>
      simp only [wpc] at h
      split at h
      · next x =>
        obtain ⟨hr, h0⟩ := h
        refine Re_ret (rv := some (vI x)) ?_ h0
        unfold rtV
        dsimp only
        unfold rkd at hr
        split at hr <;> simp_all
      · exact h.elim
    case lreturn =>
      simp only [wpc] at h
      split at h
      · next x =>
        obtain ⟨hr, h0⟩ := h
        refine Re_ret (rv := some (vL x)) ?_ h0
        unfold rtV
        dsimp only
        unfold rkd at hr
        split at hr <;> simp_all
      · exact h.elim
    case areturn =>
      simp only [wpc] at h
      split at h
      · next x =>
        obtain ⟨hr, h0⟩ := h
        refine Re_ret (rv := some (vR x)) ?_ h0
        unfold rtV
        dsimp only
        unfold rkd at hr
        split at hr <;> simp_all
      · exact h.elim
    case return_ =>
      simp only [wpc] at h
      split at h
      · obtain ⟨hr, h0⟩ := h
        refine Re_ret (rv := none) ?_ h0
        unfold rtV
        dsimp only
        unfold rkd at hr
        split at hr <;> simp_all
      · exact h.elim
    all_goals (exfalso; simp only [wpc] at h)
end WS
