/-! where a run doesn't go by ranks -/
section
variable {P s M : Mem} {ρ : Int → Int} {τ : Int}
def stR (P : Mem) (ρ : Int → Int) : Mem := fun c k => if c = 121 then ρ k else P c k
theorem sr_c {c : Nat} (h : ¬ c = 121) : stR P ρ c = P c := by
  funext k
  unfold stR
  rw [if_neg h]
theorem caF_r : caF (stR P ρ) = caF P := by
  funext t j
  unfold caF
  rw [sr_c (by omega), sr_c (by omega), sr_c (by omega)]
theorem com_r : com (stR P ρ) = com P := by
  funext s τ t
  unfold com
  rw [sr_c (by omega), caF_r]
theorem cmA_r : cmA (stR P ρ) = cmA P := by
  funext τ t s
  unfold cmA
  rw [com_r]
theorem comesF_r : ∀ n : Nat, comesF (stR P ρ) τ n s = comesF P τ n s := by
  intro n
  induction n with
  | zero => rfl
  | succ n ih => simp only [comesF, ih, cmA_r]
theorem barB_r (h : ¬ P 104 34 = 2) : barB (stR P ρ) = barB P := by
  funext s i
  unfold barB
  rw [sr_c (c := 104) (by omega)]
  exact mkB_cg fun k _ _ => by rw [decide_eq_false fun w => h w.1, decide_eq_false fun w => h w.1]
theorem fulP_r : fulP (stR P ρ) = fulP P := by
  funext s i h
  unfold fulP
  rw [sr_c (by omega)]
theorem brkP_r : brkP (stR P ρ) = brkP P := by
  funext s i
  unfold brkP
  rw [sr_c (by omega), sr_c (by omega)]
theorem wtX_r (h : ¬ P 104 34 = 2) : wtX (stR P ρ) = wtX P := by
  funext s i k
  unfold wtX
  rw [barB_r h, fulP_r]
theorem wtB_r (h : ¬ P 104 34 = 2) : wtB (stR P ρ) = wtB P := by
  funext s i k
  unfold wtB
  rw [wtX_r h]
theorem waitP_r (h : ¬ P 104 34 = 2) : waitP (stR P ρ) = waitP P := by
  funext s τ i k
  unfold waitP
  rw [barB_r h, fulP_r, brkP_r]
theorem doF_r {i : Int} (h : ¬ P 104 34 = 2) : ∀ (n : Nat) (s : Mem), doF (stR P ρ) τ i n s = doF P τ i n s := by
  intro n
  induction n with
  | zero => exact fun _ => rfl
  | succ n ih =>
    intro s
    simp only [doF]
    rw [sr_c (c := 118) (by omega), sr_c (c := 119) (by omega), waitP_r h, wtB_r h, ih, ih]
theorem kbF_r (h : ¬ P 104 33 = 0) : kbF (stR P ρ) = kbF P := by
  funext s t
  unfold kbF
  rw [sr_c (c := 104) (by omega), if_neg h, if_neg h, sr_c (c := 116) (by omega), sr_c (c := 122) (by omega), sr_c (c := 114) (by omega), sr_c (c := 115) (by omega)]
theorem baF_r (h : ¬ P 104 33 = 0) : baF (stR P ρ) = baF P := by
  funext s t
  unfold baF
  rw [kbF_r h]
theorem frc_r (h : ¬ P 104 33 = 0) : frc (stR P ρ) = frc P := by
  funext s
  unfold frc
  rw [baF_r h, sr_c (c := 104) (by omega)]
theorem firB_r : firB (stR P ρ) = firB P := by
  unfold firB
  rw [sr_c (c := 104) (by omega), sr_c (c := 105) (by omega)]
theorem firP_r : firP (stR P ρ) = firP P := by
  funext s t
  unfold firP
  rw [firB_r]
theorem betF_r {f : Int → Int} : betF f (stR P ρ) = betF f P := by
  funext s t z
  unfold betF
  rw [firP_r]
theorem nx_r {f : Int → Int} : ∀ n : Nat, nx f (stR P ρ) s n = nx f P s n := by
  intro n
  induction n with
  | zero => rfl
  | succ n ih => simp only [nx, ih, betF_r, firP_r]
theorem nextF_r (h : ¬ P 104 33 = 0) : nextF (stR P ρ) = nextF P := by
  funext s
  unfold nextF
  rw [frc_r h, nx_r]
theorem filF_r : filF (stR P ρ) = filF P := by
  funext τ h s c k
  unfold filF
  rw [sr_c (c := 104) (by omega)]
theorem choF_r (h : ¬ P 104 33 = 0) (h2 : ¬ P 104 34 = 2) : ∀ (n : Nat) (g : Int) (s : Mem), choF (stR P ρ) τ n g s = choF P τ n g s := by
  intro n
  induction n with
  | zero => intro g s; simp only [choF]; rw [filF_r]
  | succ n ih =>
    intro g s
    simp only [choF]
    rw [nextF_r h, sr_c (c := 104) (by omega), sr_c (c := 117) (by omega), doF_r h2, ih, ih, filF_r]
theorem tkO_r : tkO (stR P ρ) = tkO P := by
  funext t k
  unfold tkO
  rw [sr_c (c := 119) (by omega), sr_c (c := 104) (by omega)]
theorem givF_r {t : Int} : ∀ (n : Nat) (s : Mem), givF (stR P ρ) t n s = givF P t n s := by
  intro n
  induction n with
  | zero => exact fun _ => rfl
  | succ n ih =>
    intro s
    simp only [givF]
    rw [sr_c (c := 118) (by omega), sr_c (c := 119) (by omega), ih]
theorem wkB_r : wkB (stR P ρ) = wkB P := by
  funext t s
  unfold wkB
  rw [givF_r, sr_c (c := 117) (by omega)]
theorem wk1_r : wk1 (stR P ρ) = wk1 P := by
  funext τ t s
  unfold wk1
  rw [tkO_r, wkB_r, sr_c (c := 117) (by omega)]
theorem wkF_r : ∀ n : Nat, wkF (stR P ρ) τ n s = wkF P τ n s := by
  intro n
  induction n with
  | zero => rfl
  | succ n ih => simp only [wkF, ih, wk1_r]
theorem tickF_r (h : ¬ P 104 33 = 0) (h2 : ¬ P 104 34 = 2) : tickF (stR P ρ) = tickF P := by
  funext s τ
  unfold tickF
  rw [wkF_r, choF_r h h2, comesF_r]
theorem rnF_r {s0 : Mem} (h : ¬ P 104 33 = 0) (h2 : ¬ P 104 34 = 2) : ∀ n : Nat, rnF (stR P ρ) s0 n = rnF P s0 n := by
  intro n
  induction n with
  | zero => rfl
  | succ n ih => simp only [rnF, ih, tickF_r h h2]
theorem ltA_r {T : Int} : ltA (stR P ρ) s T = ltA P s T := by
  unfold ltA
  refine sumI_congr fun t _ _ => ?_
  unfold ltF
  refine sumI_congr fun j _ _ => ?_
  have : ltJ (stR P ρ) s T t j = ltJ P s T t j := by
    unfold ltJ
    rw [caF_r, sr_c (c := 115) (by omega)]
  rw [this]
theorem PG_r {A ru le : Int} {rk rk' lt : Int → Int} : PG M A ru le rk' lt = stR (PG M A ru le rk lt) rk' := by
  funext c k
  unfold stR PG
  by_cases e : c = 121
  · rw [if_neg (by omega), if_neg (by omega), if_neg (by omega), if_pos e, if_pos e]
  · simp only [if_neg e]
theorem RG_r {A ru le T : Int} {rk lt : Int → Int} (rk' : Int → Int) (h : ¬ ru = 0) (h2 : ¬ le = 2) : RG M A ru le rk' lt T = RG M A ru le rk lt T := by
  unfold RG
  rw [PG_r (rk := rk) (rk' := rk')]
  refine rnF_r ?_ ?_ _
  · unfold PG
    rw [if_neg (by omega), if_pos ⟨rfl, rfl⟩]; exact h
  · unfold PG
    rw [if_neg (by omega), if_neg (by omega), if_pos ⟨rfl, rfl⟩]; exact h2
theorem ltG_r {A ru le T : Int} {rk lt : Int → Int} (rk' : Int → Int) (h : ¬ ru = 0) (h2 : ¬ le = 2) : ltG M A ru le rk' lt T ↔ ltG M A ru le rk lt T := by
  unfold ltG
  rw [RG_r (rk := rk) rk' h h2, PG_r (rk := rk) (rk' := rk'), ltA_r]
end
