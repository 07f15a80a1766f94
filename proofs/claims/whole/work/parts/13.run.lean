def ini (mi : Nat) (av : List AV) : List AV := av ++ List.replicate (mL mi - av.length) vU
def rtV (mi : Nat) (e : En) (st : List AV) : Option (Option AV) := match e.2.2.1 with
  | .ireturn => match st with
    | [.inl v] => match mR mi with
      | some .int => some (some (vI v))
      | some .boolean => if v = 0 ∨ v = 1 then some (some (vI v)) else none
      | _ => none
    | _ => none
  | .lreturn => match st with
    | [.inr (.inl v)] => match mR mi with
      | some .long => some (some (vL v))
      | _ => none
    | _ => none
  | .areturn => match st with
    | [.inr (.inr (.inl r))] => match mR mi with
      | some (.object _) => some (some (vR r))
      | _ => none
    | _ => none
  | .return_ => match st with
    | [] => match mR mi with
      | none => some none
      | _ => none
    | _ => none
  | _ => none
def clR (mi' np : Nat) (st : List AV) (σ : Sg) : Option (Nat × List AV × List AV) := if np + 1 ≤ mL mi' ∧ np ≤ st.length ∧ (st.take np).all (fun v => !cat2 v) = true then (match st.drop np with
  | .inr (.inr (.inl (c + 2))) :: r => match σ.1[c]? with
    | some (kd, _) => if kd = mK mi' ∧ catS r ≤ 8 then some (mi', vR (c + 2) :: (st.take np).reverse, r) else none
    | none => none
  | _ => none) else none
def clV (e : En) (st : List AV) (σ : Sg) : Option (Nat × List AV × List AV) := match e.2.2.1 with
  | .invokestatic _ => match e.2.2.2 with
    | mi' :: _ :: np :: _ => if np ≤ mL mi' ∧ np ≤ st.length ∧ (st.take np).all (fun v => !cat2 v) = true ∧ catS (st.drop np) ≤ 8 then some (mi', (st.take np).reverse, st.drop np) else none
    | _ => none
  | .invokevirtual _ => match e.2.2.2 with
    | mi' :: _ :: np :: _ => clR mi' np st σ
    | _ => none
  | .invokespecial _ => match e.2.2.2 with
    | mi' :: _ :: np :: _ => clR mi' np st σ
    | _ => none
  | _ => none
def run (sx : Int → Int) (L : Nat) : Nat → Nat → List En → Nat → List AV → List AV → Sg → Option (Option AV × Sg)
  | 0, _, _, _, _, _, _ => none
  | n + 1, mi, [], fl, ls, st, σ => run sx L n mi (blk mi fl).1 (blk mi fl).2 ls st σ
  | n + 1, mi, e :: es, fl, ls, st, σ =>
    match rtV mi e st with
    | some rv => some (rv, σ)
    | none => match clV e st σ with
      | some (mi', av, rest) => match run sx L n mi' (blk mi' 0).1 (blk mi' 0).2 (ini mi' av) [] σ with
        | some (rv, σ') => run sx L n mi es fl ls (rv.toList ++ rest) σ'
        | none => none
      | none => match stp sx L e ls st σ with
        | some (0, ls', st', σ') => run sx L n mi es fl ls' st' σ'
        | some (j + 1, ls', st', σ') => run sx L n mi (blk mi j).1 (blk mi j).2 ls' st' σ'
        | none => none
set_option maxHeartbeats 4000000 in
theorem stp_mono {sx : Int → Int} {L : Nat} {e0 : En} {ls st ls' st' : List AV} {σ σ' : Sg} {j : Nat} (h : stp sx L e0 ls st σ = some (j, ls', st', σ')) : ∃ t, σ'.1 = σ.1 ++ t := by
  obtain ⟨pc, ln, ins, aux⟩ := e0
  cases ins <;> simp only [stp, p1I, p2I, p2L, p1R, p2IR, p3, gI, gL, gR, oI, oR, sto1, sto2, a1, a2] at h <;> (repeat' (split at h)) <;> first | (cases h; done) | (cases h; first | exact ⟨[], (List.append_nil _).symm⟩ | exact ⟨_, rfl⟩)
theorem run_mono {sx : Int → Int} {L : Nat} : ∀ (n mi : Nat) (es : List En) (fl : Nat) (ls st : List AV) (σ : Sg) (rv : Option AV) (σ' : Sg), run sx L n mi es fl ls st σ = some (rv, σ') → ∃ t, σ'.1 = σ.1 ++ t := by
  intro n
  induction n with
  | zero => intro mi es fl ls st σ rv σ' h; simp [run] at h
  | succ n ih =>
    intro mi es fl ls st σ rv σ' h
    cases es with
    | nil => exact ih _ _ _ _ _ _ _ _ h
    | cons e0 es =>
      simp only [run] at h
      split at h
      · cases h; exact ⟨[], (List.append_nil _).symm⟩
      · split at h
        · split at h
          · next h2 =>
            obtain ⟨t1, e1⟩ := ih _ _ _ _ _ _ _ _ h2
            obtain ⟨t2, e2⟩ := ih _ _ _ _ _ _ _ _ h
            exact ⟨t1 ++ t2, by rw [e2, e1, List.append_assoc]⟩
          · cases h
        · split at h
          · next h2 =>
            obtain ⟨t1, e1⟩ := stp_mono h2
            obtain ⟨t2, e2⟩ := ih _ _ _ _ _ _ _ _ h
            exact ⟨t1 ++ t2, by rw [e2, e1, List.append_assoc]⟩
          · next h2 =>
            obtain ⟨t1, e1⟩ := stp_mono h2
            obtain ⟨t2, e2⟩ := ih _ _ _ _ _ _ _ _ h
            exact ⟨t1 ++ t2, by rw [e2, e1, List.append_assoc]⟩
          · cases h
theorem run_len {sx : Int → Int} {L n mi : Nat} {es : List En} {fl : Nat} {ls st : List AV} {σ σ' : Sg} {rv : Option AV} (h : run sx L n mi es fl ls st σ = some (rv, σ')) : σ.1.length ≤ σ'.1.length ∧ slN σ.1 ≤ slN σ'.1 := by
  obtain ⟨t, e⟩ := run_mono _ _ _ _ _ _ _ _ _ h
  rw [e]
  simp [slN]
theorem stp_len {sx : Int → Int} {L : Nat} {e0 : En} {ls st ls' st' : List AV} {σ σ' : Sg} {j : Nat} (h : stp sx L e0 ls st σ = some (j, ls', st', σ')) : σ.1.length ≤ σ'.1.length ∧ slN σ.1 ≤ slN σ'.1 := by
  obtain ⟨t, e⟩ := stp_mono h
  rw [e]
  simp [slN]
