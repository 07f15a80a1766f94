/-! the fewest changes: what is asked -/
section
variable {M N : Mem} {f g : Int → Int} {a b c k x X : Int}
def swF (f : Int → Int) (a b : Int) : Int → Int := fun k => if k = a then f b else if k = b then f a else f k
theorem swF_n {f : Int → Int} {k : Int} (h : 0 ≤ k) : swF f (-1) (-1) k = f k := by unfold swF; rw [if_neg (by omega), if_neg (by omega)]
theorem swF_2 {f g : Int → Int} {a b k : Int} (ha : g a = f b) (hb : g b = f a) (hk : ¬ k = a → ¬ k = b → g k = f k) : swF g a b k = f k := by
  unfold swF
  by_cases e : k = a
  · rw [if_pos e, hb, e]
  · rw [if_neg e]
    by_cases e2 : k = b
    · rw [if_pos e2, ha, e2]
    · rw [if_neg e2]; exact hk e e2
def abT (a b : Int) : Prop := a = -1 ∧ b = -1 ∨ 0 ≤ a ∧ a < 8 ∧ 0 ≤ b ∧ b < 8
abbrev rkM (M : Mem) (a b : Int) : Int → Int := swF (fun t => M 111 t) a b
theorem OKM {ru le : Int} (hb : BASE M) (r0 : 0 ≤ ru) (r2 : ru ≤ 2) (l0 : 0 ≤ le) (l2 : le ≤ 2) (ab : abT a b) : OKG M (areB M) ru le (rkM M a b) (fun _ => 0) := by
  obtain ⟨h1, h2, h3, h4, h5, h6, h7⟩ := OKF hb r0 r2 l0 l2
  refine ⟨h1, h2, h3, h4, h5, h6, fun t t0 t1 => ?_⟩
  have e : rkM M a b t = (if t = a then M 111 b else if t = b then M 111 a else M 111 t) := rfl
  rw [e]
  split
  · rcases ab with q | q
    · omega
    · exact h7 b q.2.2.1 q.2.2.2
  · split
    · rcases ab with q | q
      · omega
      · exact h7 a q.1 q.2.1
    · exact h7 t t0 t1
/-- nothing late, no ring -/
def wlM (M : Mem) (ru le a b : Int) : Prop := ¬ ltG M (areB M) ru le (rkM M a b) (fun _ => 0) (M 104 25) ∧ RG M (areB M) ru le (rkM M a b) (fun _ => 0) (M 104 25) 104 49 = -1
theorem wlM_bm {ru le : Int} (hb : BASE M) (bf : BFr M N) (r0 : 0 ≤ ru) (r2 : ru ≤ 2) (l0 : 0 ≤ le) (l2 : le ≤ 2) (ab : abT a b) : wlM N ru le a b ↔ wlM M ru le a b := by
  obtain ⟨g1, g2, g3, g4, g5, g6, g7, g8, g9, g10, g11, g12, g13⟩ := hb.2.2.2.2.1
  have e111 : (fun t => N 111 t) = fun t => M 111 t := funext fun t => bf.a (c := 111) (by omega) t
  have ok := OKM (a := a) (b := b) hb r0 r2 l0 l2 ab
  unfold wlM rkM
  rw [bf.are, bf.m (k := 25) (by omega), e111]
  rw [ltG.bm hb ok bf.sy (by omega) g11, ringG.bm hb ok bf.sy (by omega) g11]
theorem wlM_r {ru le : Int} (h : ¬ ru = 0) (h2 : ¬ le = 2) : wlM M ru le a b ↔ wlM M ru le (-1) (-1) := by
  unfold wlM
  rw [ltG_r (rk := rkM M (-1) (-1)) (rkM M a b) h h2, RG_r (rk := rkM M (-1) (-1)) (rkM M a b) h h2]
def pA (y : Int) : Int := if y = 0 then -1 else (y - 1) / 8
def pB (y : Int) : Int := if y = 0 then -1 else (y - 1) % 8
theorem p_ab {y : Int} (y0 : 0 ≤ y) (y1 : y < 65) : abT (pA y) (pB y) := by
  unfold abT pA pB
  split <;> omega
def chM (M : Mem) (k : Int) : Int := (if k / 3 = M 104 22 then 0 else 1) + (if k % 3 = M 104 23 then 0 else 1)
theorem chM_B : 0 ≤ chM M k ∧ chM M k ≤ 2 := by unfold chM; split <;> split <;> omega
def ctM (M : Mem) (k y : Int) : Int := chM M k + if y = 0 then 0 else 1
def vdM (M : Mem) (k y : Int) : Prop := y = 0 ∨ (pA y < pB y ∧ tb (areB M) (pA y) = true ∧ tb (areB M) (pB y) = true ∧ chM M k < 2)
def gdX (M : Mem) (x : Int) : Prop := vdM M (x / 65) (x % 65) ∧ wlM M (x / 65 / 3) (x / 65 % 3) (pA (x % 65)) (pB (x % 65))
def ctX (M : Mem) (x : Int) : Int := ctM M (x / 65) (x % 65)
theorem ctX_0 : 0 ≤ ctX M x := by
  have := chM_B (M := M) (k := x / 65)
  unfold ctX ctM
  split <;> omega
theorem ctX_2 (h : gdX M x) : ctX M x ≤ 2 := by
  have := chM_B (M := M) (k := x / 65)
  have h := h.1
  unfold vdM at h
  unfold ctX ctM
  split
  · omega
  · rcases h with h | h
    · omega
    · have := h.2.2.2; omega
def IsX (M : Mem) (X x : Int) : Prop := 0 ≤ x ∧ x < X ∧ gdX M x ∧ ∀ x', 0 ≤ x' → x' < X → gdX M x' → ctX M x < ctX M x' ∨ (ctX M x = ctX M x' ∧ x ≤ x')
def NoX (M : Mem) (X : Int) : Prop := ∀ x', 0 ≤ x' → x' < X → ¬ gdX M x'
def RsX (M : Mem) (X : Int) (f : Int → Int) : Prop := (f 0 = -1 ∧ NoX M X) ∨ ∃ x, IsX M X x ∧ f 0 = ctX M x ∧ f 1 = x / 65 / 3 ∧ f 2 = x / 65 % 3 ∧ f 3 = pA (x % 65) ∧ f 4 = pB (x % 65)
theorem RsX_u (hf : RsX M X f) (hg : RsX M X g) : f 0 = g 0 ∧ (¬ f 0 = -1 → f 1 = g 1 ∧ f 2 = g 2 ∧ f 3 = g 3 ∧ f 4 = g 4) := by
  rcases hf with ⟨e, h⟩ | ⟨x, h, f0, f1, f2, f3, f4⟩
  · rcases hg with ⟨e2, h2⟩ | ⟨y, h2, g0, g1, g2, g3, g4⟩
    · exact ⟨by omega, fun q => absurd e q⟩
    · exact absurd h2.2.2.1 (h y h2.1 h2.2.1)
  · rcases hg with ⟨e2, h2⟩ | ⟨y, h2, g0, g1, g2, g3, g4⟩
    · exact absurd h.2.2.1 (h2 x h.1 h.2.1)
    · have a1 := h.2.2.2 y h2.1 h2.2.1 h2.2.2.1
      have a2 := h2.2.2.2 x h.1 h.2.1 h.2.2.1
      have e : x = y := by omega
      subst e
      exact ⟨by omega, fun _ => ⟨by omega, by omega, by omega, by omega⟩⟩
theorem gdX_bm (hb : BASE M) (bf : BFr M N) (x0 : 0 ≤ x) (x1 : x < 585) : gdX N x ↔ gdX M x := by
  unfold gdX vdM chM
  rw [bf.are, bf.m (k := 22) (by omega), bf.m (k := 23) (by omega), wlM_bm hb bf (by omega) (by omega) (by omega) (by omega) (p_ab (by omega) (by omega))]
theorem ctX_bm (bf : BFr M N) : ctX N x = ctX M x := by
  unfold ctX ctM chM
  rw [bf.m (k := 22) (by omega), bf.m (k := 23) (by omega)]
theorem RsX_bm (hb : BASE M) (bf : BFr M N) (h : RsX M 585 f) : RsX N 585 f := by
  rcases h with ⟨e, h⟩ | ⟨x, h, f0, f1, f2, f3, f4⟩
  · exact Or.inl ⟨e, fun x a b => by rw [gdX_bm hb bf a b]; exact h x a b⟩
  · refine Or.inr ⟨x, ⟨h.1, h.2.1, (gdX_bm hb bf h.1 h.2.1).mpr h.2.2.1, fun x' a b q => ?_⟩, by rw [ctX_bm bf]; exact f0, f1, f2, f3, f4⟩
    rw [ctX_bm bf, ctX_bm bf]
    exact h.2.2.2 x' a b ((gdX_bm hb bf a b).mp q)
theorem RsX_eq (h : RsX M X f) (e : ∀ i, 0 ≤ i → i < 5 → g i = f i) : RsX M X g := by
  unfold RsX
  rw [e 0 (by omega) (by omega), e 1 (by omega) (by omega), e 2 (by omega) (by omega), e 3 (by omega) (by omega), e 4 (by omega) (by omega)]
  exact h
/-- one more, that does not serve -/
theorem RsX_n (h : RsX M X f) (q : gdX M X → ¬ f 0 = -1 ∧ f 0 ≤ ctX M X) : RsX M (X + 1) f := by
  rcases h with ⟨e, h⟩ | ⟨x, h, f0, f1, f2, f3, f4⟩
  · refine Or.inl ⟨e, fun x a b w => ?_⟩
    by_cases z : x = X
    · rw [z] at w
      exact (q w).1 e
    · exact h x a (by omega) w
  · refine Or.inr ⟨x, ⟨h.1, by have := h.2.1; omega, h.2.2.1, fun x' a b w => ?_⟩, f0, f1, f2, f3, f4⟩
    by_cases z : x' = X
    · rw [z] at w ⊢
      have := (q w).2
      have := h.2.1
      omega
    · exact h.2.2.2 x' a (by omega) w
/-- one more, that is better -/
theorem RsX_y (h : RsX M X f) (X0 : 0 ≤ X) (q : gdX M X) (hf : f 0 = -1 ∨ ctX M X < f 0) (g0 : g 0 = ctX M X) (g1 : g 1 = X / 65 / 3) (g2 : g 2 = X / 65 % 3) (g3 : g 3 = pA (X % 65)) (g4 : g 4 = pB (X % 65)) : RsX M (X + 1) g := by
  refine Or.inr ⟨X, ⟨X0, by omega, q, fun x' a b w => ?_⟩, g0, g1, g2, g3, g4⟩
  by_cases z : x' = X
  · rw [z]; omega
  · rcases h with ⟨e, h⟩ | ⟨x, h, f0, f1, f2, f3, f4⟩
    · exact absurd w (h x' a (by omega))
    · have c0 := ctX_0 (M := M) (x := x)
      have := h.2.2.2 x' a (by omega) w
      omega
/-- none of fewer changes, none of as many ahead of a place -/
def CI (M : Mem) (c X : Int) : Prop := ∀ x, 0 ≤ x → x < 585 → gdX M x → c < ctX M x ∨ (c = ctX M x ∧ X ≤ x)
theorem CI_0 : CI M 0 0 := fun x a _ _ => by
  have := ctX_0 (M := M) (x := x)
  omega
theorem CI_k {X' : Int} (h : CI M c X) (q : ∀ x, X ≤ x → x < X' → 0 ≤ x → x < 585 → gdX M x → ¬ ctX M x = c) : CI M c X' := fun x a b w => by
  have := h x a b w
  by_cases z : X ≤ x ∧ x < X'
  · have := q x z.1 z.2 a b w
    omega
  · omega
theorem CI_n (h : CI M c 585) : CI M (c + 1) 0 := fun x a b w => by
  have := h x a b w
  omega
theorem CI_3 (h : CI M 3 0) : NoX M 585 := fun x a b w => by
  have := h x a b w
  have := ctX_2 w
  omega
theorem CI_h (h : CI M c X) (X0 : 0 ≤ X) (X1 : X < 585) (w : gdX M X) (e : ctX M X = c) : IsX M 585 X := ⟨X0, X1, w, fun x a b q => by
  have := h x a b q
  omega⟩
/-- what is kept of it -/
def KM (M : Mem) : Prop := M 74 13 = 0 ∨ RsX M 585 fun i => M 103 i
theorem KM.fr (hb : BASE M) (h : KM M) (bf : BFr M N) (e : N 74 13 = M 74 13) (g : ∀ k, N 103 k = M 103 k) : KM N := by
  unfold KM
  rw [e]
  exact h.imp id fun w => RsX_eq (RsX_bm hb bf w) fun i _ _ => g i
end
