/-! the two constructors, by reckoning: nothing of them reads the script -/
def usS (ins : Instr) (st : List AV) : Bool := match ins with
  | .iaload => match st with
    | _ :: .inr (.inr (.inl 1)) :: _ => true
    | _ => false
  | .arraylength => match st with
    | .inr (.inr (.inl 1)) :: _ => true
    | _ => false
  | _ => false
def stq (e : En) (ls st : List AV) (σ : Sg) : Rs := if usS e.2.2.1 st = true then none else stp (fun _ => 0) 0 e ls st σ
def rnq : Nat → Nat → List En → Nat → List AV → List AV → Sg → Option (Option AV × Sg)
  | 0, _, _, _, _, _, _ => none
  | n + 1, mi, [], fl, ls, st, σ => rnq n mi (blk mi fl).1 (blk mi fl).2 ls st σ
  | n + 1, mi, e :: es, fl, ls, st, σ =>
    match rtV mi e st with
    | some rv => some (rv, σ)
    | none => match clV e st σ with
      | some (mi', av, rest) => match rnq n mi' (blk mi' 0).1 (blk mi' 0).2 (ini mi' av) [] σ with
        | some (rv, σ') => rnq n mi es fl ls (rv.toList ++ rest) σ'
        | none => none
      | none => match stq e ls st σ with
        | some (0, ls', st', σ') => rnq n mi es fl ls' st' σ'
        | some (j + 1, ls', st', σ') => rnq n mi (blk mi j).1 (blk mi j).2 ls' st' σ'
        | none => none
theorem stq_stp {sx : Int → Int} {L : Nat} {e0 : En} {ls st : List AV} {σ : Sg} {z : Nat × List AV × List AV × Sg} (h : stq e0 ls st σ = some z) : stp sx L e0 ls st σ = some z := by
  obtain ⟨pc, ln, ins, aux⟩ := e0
  unfold stq at h
  split at h
  · cases h
  · next hu =>
    cases ins
    case iaload =>
      rw [← h]
      dsimp only [stp]
      unfold p2IR
      split
      · next x j c r =>
        cases c with
        | zero => exact absurd rfl hu
        | succ c => rfl
      · rfl
    case arraylength =>
      rw [← h]
      dsimp only [stp]
      split
      · exact absurd rfl hu
      · rfl
      · rfl
    all_goals (rw [← h]; rfl)
theorem rnq_run {sx : Int → Int} {L : Nat} : ∀ (n mi : Nat) (es : List En) (fl : Nat) (ls st : List AV) (σ : Sg) (z : Option AV × Sg), rnq n mi es fl ls st σ = some z → run sx L n mi es fl ls st σ = some z := by
  intro n
  induction n with
  | zero => intro mi es fl ls st σ z h; simp [rnq] at h
  | succ n ih =>
    intro mi es fl ls st σ z h
    cases es with
    | nil => exact ih _ _ _ _ _ _ _ h
    | cons e0 es =>
      simp only [rnq] at h
      simp only [run]
      cases hr : rtV mi e0 st with
      | some rv =>
        simp only [hr] at h ⊢
        exact h
      | none =>
        simp only [hr] at h ⊢
        cases hc : clV e0 st σ with
        | some q =>
          obtain ⟨mi', av, rest⟩ := q
          simp only [hc] at h ⊢
          cases h2 : rnq n mi' (blk mi' 0).1 (blk mi' 0).2 (ini mi' av) [] σ with
          | some w =>
            obtain ⟨rv, σ'⟩ := w
            simp only [h2] at h
            rw [ih _ _ _ _ _ _ _ h2]
            exact ih _ _ _ _ _ _ _ h
          | none =>
            simp only [h2] at h
            cases h
        | none =>
          simp only [hc] at h ⊢
          cases h2 : stq e0 ls st σ with
          | some w =>
            obtain ⟨k, ls', st', σ'⟩ := w
            simp only [h2] at h
            rw [stq_stp h2]
            cases k with
            | zero => exact ih _ _ _ _ _ _ _ h
            | succ k => exact ih _ _ _ _ _ _ _ h
          | none =>
            simp only [h2] at h
            cases h
def σE : Sg := ([], fun _ _ => 0, fun _ _ => 0)
def σN (σ : Sg) (ci : Nat) : Sg := (σ.1 ++ [(ci, cnN ci)], rclr σ.2.1 σ.1.length, mclr σ.2.2 σ.1.length)
def ctA : Option (Option AV × Sg) := rnq 20000 93 (blk 93 0).1 (blk 93 0).2 (ini 93 [vR 2]) [] (σN σE 8)
def isN (z : Option (Option AV × Sg)) : Bool := match z with
  | some (none, _) => true
  | _ => false
theorem ctA_ok : isN ctA = true := by decide +kernel
def outS (z : Option (Option AV × Sg)) : Sg := match z with
  | some (_, σ) => σ
  | none => σE
def σ1 : Sg := outS ctA
def ctB : Option (Option AV × Sg) := rnq 20000 136 (blk 136 0).1 (blk 136 0).2 (ini 136 [vR 106]) [] (σN σ1 9)
def σ2 : Sg := outS ctB
theorem ctB_ok : isN ctB = true := by decide +kernel
/-- the kinds of the cells, behind both constructors -/
def K0 : List (Nat × Nat) := [(8, 10), (7, 5), (10, 6), (10, 6), (10, 6), (13, 8), (5, 11), (10, 8), (10, 8), (10, 8), (14, 4)] ++
  ((List.range 8).flatMap fun _ => [(1, 13), (10, 60), (10, 20), (10, 20)]) ++ ((List.range 4).flatMap fun _ => [(6, 4), (10, 60)]) ++ [(2, 3)] ++
  ([(3, 18), (12, 8), (10, 120), (10, 120), (10, 120), (10, 360)] ++ (List.range 8).flatMap fun _ => [(0, 18), (10, 120)]) ++ [(4, 15)] ++
  ([(3, 18), (12, 8), (10, 120), (10, 120), (10, 120), (10, 360)] ++ (List.range 8).flatMap fun _ => [(0, 18), (10, 120)]) ++ [(5, 11), (10, 8), (10, 8), (10, 8), (10, 8), (10, 8), (10, 5)] ++
  [(9, 65), (10, 6), (10, 6), (10, 6), (10, 6), (10, 8), (10, 480), (10, 8), (10, 8), (10, 8), (10, 8), (10, 8), (10, 8), (10, 8), (10, 160), (10, 160), (10, 8), (10, 8), (10, 8), (10, 8), (10, 8), (10, 1600), (10, 1600), (10, 8), (10, 8), (10, 8), (11, 8), (10, 8), (10, 8), (10, 8), (10, 8), (10, 600), (10, 1600), (10, 6), (10, 6), (11, 4), (10, 4), (10, 4), (10, 240), (10, 60)]
theorem K0_eq : σ2.1 = K0 := by decide +kernel
