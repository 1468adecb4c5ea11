/-! route: the grid -/
def rt_nb (x y : Int) : Int := if y + 7 = x then y else if y = x + 7 then x else if y + 1 = x ∧ ¬ x % 7 = 0 then 42 + 6 * (x / 7) + x % 7 - 1 else if y = x + 1 ∧ x % 7 < 6 then 42 + 6 * (x / 7) + x % 7 else -1
theorem rt_nb_rng {x y : Int} (x0 : 0 ≤ x) (x1 : x < 49) (y0 : 0 ≤ y) (y1 : y < 49) : -1 ≤ rt_nb x y ∧ rt_nb x y < 84 ∧ (0 ≤ rt_nb x y → ¬ x = y) := by
  unfold rt_nb
  split
  · omega
  · split
    · omega
    · split
      · omega
      · split <;> omega
theorem rt_nb_end {x y : Int} (x0 : 0 ≤ x) (x1 : x < 49) (y0 : 0 ≤ y) (y1 : y < 49) (h : 0 ≤ rt_nb x y) : (x = rl_lo (rt_nb x y) ∧ y = rl_hi (rt_nb x y)) ∨ (x = rl_hi (rt_nb x y) ∧ y = rl_lo (rt_nb x y)) := by
  unfold rt_nb at h ⊢
  unfold rl_hi rl_lo
  split
  · rw [if_pos (by omega)]; omega
  · split
    · rw [if_pos (by omega)]; omega
    · split
      · rw [if_neg (by omega)]; omega
      · split
        · rw [if_neg (by omega)]; omega
        · rename_i a b c d; rw [if_neg a, if_neg b, if_neg c, if_neg d] at h; omega
theorem rt_end_nb {e : Int} (e0 : 0 ≤ e) (e1 : e < 84) : rt_nb (rl_lo e) (rl_hi e) = e ∧ rt_nb (rl_hi e) (rl_lo e) = e := by
  unfold rl_hi rl_lo rt_nb
  by_cases p : e < 42
  · rw [if_pos p, if_pos p, if_neg (by omega), if_pos (by omega), if_pos (by omega)]; omega
  · rw [if_neg p, if_neg p]
    constructor
    · rw [if_neg (by omega), if_neg (by omega), if_neg (by omega), if_pos (by omega)]; omega
    · rw [if_neg (by omega), if_neg (by omega), if_pos (by omega)]; omega
/-- the other end of an edge -/
theorem rt_oth {e x : Int} (e0 : 0 ≤ e) (e1 : e < 84) (h : x = rl_lo e ∨ x = rl_hi e) : 0 ≤ wy_o e x ∧ wy_o e x < 49 ∧ 0 ≤ x ∧ x < 49 ∧ rt_nb x (wy_o e x) = e ∧ wy_o e (wy_o e x) = x ∧ ¬ wy_o e x = x ∧ (wy_o e x = rl_lo e ∨ wy_o e x = rl_hi e) := by
  have lo := rl_lo_rng e0 e1
  have hi := rl_hi_rng e0 e1
  have nb := rt_end_nb e0 e1
  rcases h with h | h
  · have e2 : wy_o e x = rl_hi e := by unfold wy_o; omega
    rw [e2, h]
    exact ⟨by omega, by omega, by omega, by omega, nb.1, by unfold wy_o; omega, by omega, .inr rfl⟩
  · have e2 : wy_o e x = rl_lo e := by unfold wy_o; omega
    rw [e2, h]
    exact ⟨by omega, by omega, by omega, by omega, nb.2, by unfold wy_o; omega, by omega, .inl rfl⟩
/-- an edge at x, and which crossing it leads to -/
theorem rt_nb_is {x y e : Int} (e0 : 0 ≤ e) (x0 : 0 ≤ x) (x1 : x < 49) (y0 : 0 ≤ y) (y1 : y < 49) (h : rt_nb x y = e) : (x = rl_lo e ∨ x = rl_hi e) ∧ y = wy_o e x := by
  have a := rt_nb_end x0 x1 y0 y1 (by omega)
  rw [h] at a
  unfold wy_o
  omega
/-- what is closed under edges and holds somewhere holds everywhere -/
theorem rt_conn {P : Int → Prop} (h : ∀ x y : Int, 0 ≤ x → x < 49 → 0 ≤ y → y < 49 → 0 ≤ rt_nb x y → P x → P y) {s : Int} (s0 : 0 ≤ s) (s1 : s < 49) (hs : P s) {z : Int} (z0 : 0 ≤ z) (z1 : z < 49) : P z := by
  have up : ∀ x : Int, 0 ≤ x → x < 42 → (P x ↔ P (x + 7)) := fun x a b => by
    have n1 : 0 ≤ rt_nb x (x + 7) := by unfold rt_nb; rw [if_neg (by omega), if_pos rfl]; exact a
    have n2 : 0 ≤ rt_nb (x + 7) x := by unfold rt_nb; rw [if_pos rfl]; exact a
    exact ⟨h x _ a (by omega) (by omega) (by omega) n1, h _ x (by omega) (by omega) a (by omega) n2⟩
  have rt : ∀ x : Int, 0 ≤ x → x < 49 → x % 7 < 6 → (P x ↔ P (x + 1)) := fun x a b c => by
    have n1 : 0 ≤ rt_nb x (x + 1) := by unfold rt_nb; rw [if_neg (by omega), if_neg (by omega), if_neg (by omega), if_pos ⟨rfl, c⟩]; omega
    have n2 : 0 ≤ rt_nb (x + 1) x := by unfold rt_nb; rw [if_neg (by omega), if_neg (by omega), if_pos (by omega)]; omega
    exact ⟨h x _ a b (by omega) (by omega) n1, h _ x (by omega) (by omega) a b n2⟩
  have col : ∀ k : Nat, k < 7 → ∀ x : Int, 0 ≤ x → x < 7 → (P (x + 7 * k) ↔ P x) := by
    intro k
    induction k with
    | zero => intro _ x _ _; rw [show x + 7 * ((0 : Nat) : Int) = x from by omega]
    | succ k ih =>
      intro hk x a b
      rw [← ih (by omega) x a b, show x + 7 * ((k + 1 : Nat) : Int) = x + 7 * k + 7 from by omega]
      exact (up _ (by omega) (by omega)).symm
  have row : ∀ k : Nat, k < 7 → (P k ↔ P 0) := by
    intro k
    induction k with
    | zero => intro _; exact Iff.rfl
    | succ k ih =>
      intro hk
      rw [← ih (by omega), show ((k + 1 : Nat) : Int) = (k : Int) + 1 from by omega]
      exact (rt _ (by omega) (by omega) (by omega)).symm
  have all : ∀ x : Int, 0 ≤ x → x < 49 → (P x ↔ P 0) := fun x a b => by
    have c := col (x / 7).toNat (by omega) (x % 7) (by omega) (by omega)
    rw [show x % 7 + 7 * (((x / 7).toNat : Nat) : Int) = x from by omega] at c
    have r := row (x % 7).toNat (by omega)
    rw [show (((x % 7).toNat : Nat) : Int) = x % 7 from by omega] at r
    exact c.trans r
  exact (all z z0 z1).2 ((all s s0 s1).1 hs)
theorem rt_sum_up {f : Int → Int} {x v : Int} : ∀ n : Nat, 0 ≤ x → x < n → ma_sum (bd_up f x v) n = ma_sum f n + v - f x := by
  intro n
  induction n with
  | zero => intro a b; omega
  | succ n ih =>
    intro a b
    show ma_sum (bd_up f x v) n + bd_up f x v n = ma_sum f n + f n + v - f x
    by_cases e : x = n
    · rw [ma_sum_cong (g := f) n (fun i i0 i1 => by unfold bd_up; rw [if_neg (by omega)])]
      unfold bd_up; rw [if_pos e.symm, e]; omega
    · rw [ih a (by omega)]
      unfold bd_up; rw [if_neg (by omega)]; omega
/-- one search: tolls, ways back, what is done; the order of doing -/
def rt_T (τ δ t : Int → Int) (x B : Int) : Int → Int := fun y => if 0 ≤ rt_nb x y ∧ rt_nb x y < B ∧ δ y = 0 ∧ (τ y < 0 ∨ τ x + t (rt_nb x y) < τ y) then τ x + t (rt_nb x y) else τ y
def rt_W (τ δ ω t : Int → Int) (x B : Int) : Int → Int := fun y => if 0 ≤ rt_nb x y ∧ rt_nb x y < B ∧ δ y = 0 ∧ (τ y < 0 ∨ τ x + t (rt_nb x y) < τ y) then rt_nb x y else ω y
def rt_J (A : Int → Prop) (τ ω δ F : Int → Int) (k : Int) : Prop :=
  ma_sum δ 49 = k ∧ ∀ y : Int, 0 ≤ y → y < 49 → (δ y = 0 ∨ δ y = 1) ∧ -1 ≤ τ y ∧ τ y ≤ 5000 * k ∧ (A y ↔ τ y = 0) ∧
    (δ y = 1 → 0 ≤ τ y ∧ 0 ≤ F y ∧ F y < k ∧ ∀ z : Int, 0 ≤ z → z < 49 → 0 ≤ rt_nb y z → 0 ≤ τ z) ∧
    (0 < τ y → 0 ≤ ω y ∧ ω y < 84 ∧ (y = rl_lo (ω y) ∨ y = rl_hi (ω y)) ∧ δ (wy_o (ω y) y) = 1 ∧ (δ y = 1 → F (wy_o (ω y) y) < F y))
theorem rt_J0 {A : Int → Prop} {τ ω F : Int → Int} (h : ∀ y : Int, 0 ≤ y → y < 49 → (A y → τ y = 0) ∧ (¬ A y → τ y = -1)) : rt_J A τ ω (fun _ => 0) F 0 := by
  refine ⟨ma_sum_zero 49, fun y y0 y1 => ?_⟩
  have := h y y0 y1
  by_cases a : A y
  · have := this.1 a
    exact ⟨.inl rfl, by omega, by omega, ⟨fun _ => this, fun _ => a⟩, fun z => absurd (show (0 : Int) = 1 from z) (by decide), fun z => by omega⟩
  · have := this.2 a
    exact ⟨.inl rfl, by omega, by omega, ⟨fun z => absurd z a, fun z => by omega⟩, fun z => absurd (show (0 : Int) = 1 from z) (by decide), fun z => by omega⟩
theorem rt_J_k {A : Int → Prop} {τ ω δ F : Int → Int} {k s : Int} (H : rt_J A τ ω δ F k) (s0 : 0 ≤ s) (s1 : s < 49) (hs : δ s = 0) : 0 ≤ k ∧ k ≤ 48 := by
  have a := ma_sum_rng (f := δ) (b := 1) 49 (fun i i0 i1 => by have := (H.2 i i0 i1).1; omega)
  have b := ma_sum_rng (f := bd_up δ s 1) (b := 1) 49 (fun i i0 i1 => by
    unfold bd_up
    by_cases e : i = s
    · rw [if_pos e]; omega
    · rw [if_neg e]; have := (H.2 i i0 i1).1; omega)
  rw [rt_sum_up 49 s0 s1, hs] at b
  have := H.1
  omega
theorem rt_J_open {A : Int → Prop} {τ ω δ F : Int → Int} {k s q : Int} (H : rt_J A τ ω δ F k) (q0 : 0 ≤ q) (q1 : q < 49) (hq : A q) (s0 : 0 ≤ s) (s1 : s < 49) (hs : δ s = 0) : ¬ ∀ y : Int, 0 ≤ y → y < 49 → 0 ≤ τ y → ¬ δ y = 0 := by
  intro no
  have all := rt_conn (P := fun y => 0 ≤ τ y) (fun x y x0 x1 y0 y1 nb hx => by
    have := H.2 x x0 x1
    have d : δ x = 1 := by have := no x x0 x1 hx; omega
    exact (this.2.2.2.2.1 d).2.2.2 y y0 y1 nb) q0 q1 (by have := (H.2 q q0 q1).2.2.2.1.1 hq; omega) s0 s1
  exact no s s0 s1 all hs
/-- a crossing is done, and its neighbours are offered -/
theorem rt_J_step {A : Int → Prop} {τ ω δ F t : Int → Int} {k x : Int} (H : rt_J A τ ω δ F k) (ht : ∀ e : Int, 0 ≤ e → e < 84 → 1 ≤ t e ∧ t e ≤ 5000) (x0 : 0 ≤ x) (x1 : x < 49) (hx : δ x = 0) (tx : 0 ≤ τ x) : rt_J A (rt_T τ (bd_up δ x 1) t x 84) (rt_W τ (bd_up δ x 1) ω t x 84) (bd_up δ x 1) (bd_up F x k) (k + 1) := by
  have K := rt_J_k H x0 x1 hx
  have HX := H.2 x x0 x1
  refine ⟨by rw [rt_sum_up 49 x0 x1, hx, H.1]; omega, fun y y0 y1 => ?_⟩
  have HY := H.2 y y0 y1
  have nr := rt_nb_rng x0 x1 y0 y1
  have dy : ∀ z : Int, z = x → bd_up δ x 1 z = 1 := fun z e => by unfold bd_up; rw [if_pos e]
  have dn : ∀ z : Int, ¬ z = x → bd_up δ x 1 z = δ z := fun z e => by unfold bd_up; rw [if_neg e]
  have fy : ∀ z : Int, z = x → bd_up F x k z = k := fun z e => by unfold bd_up; rw [if_pos e]
  have fn : ∀ z : Int, ¬ z = x → bd_up F x k z = F z := fun z e => by unfold bd_up; rw [if_neg e]
  have tm : ∀ z : Int, 0 ≤ z → z < 49 → (0 ≤ τ z → 0 ≤ rt_T τ (bd_up δ x 1) t x 84 z) := fun z z0 z1 a => by
    have zr := rt_nb_rng x0 x1 z0 z1
    unfold rt_T
    split
    · rename_i c; have := ht _ c.1 zr.2.1; omega
    · exact a
  by_cases c : 0 ≤ rt_nb x y ∧ rt_nb x y < 84 ∧ bd_up δ x 1 y = 0 ∧ (τ y < 0 ∨ τ x + t (rt_nb x y) < τ y)
  · have yx : ¬ y = x := fun e => by rw [dy y e] at c; omega
    have ty : rt_T τ (bd_up δ x 1) t x 84 y = τ x + t (rt_nb x y) := by unfold rt_T; rw [if_pos c]
    have wy : rt_W τ (bd_up δ x 1) ω t x 84 y = rt_nb x y := by unfold rt_W; rw [if_pos c]
    have tt := ht _ c.1 c.2.1
    have nA : ¬ A y := fun a => by have := HY.2.2.2.1.1 a; omega
    have en := rt_nb_is c.1 x0 x1 y0 y1 rfl
    have ot := rt_oth c.1 c.2.1 en.1
    rw [ty, wy]
    have oy : wy_o (rt_nb x y) y = x := by have z := ot.2.2.2.2.2.1; rw [← en.2] at z; exact z
    refine ⟨.inl c.2.2.1, by omega, by omega, ⟨fun a => absurd a nA, fun z => by omega⟩, fun z => by omega, fun _ => ⟨c.1, c.2.1, ?_, ?_, fun z => by omega⟩⟩
    · have z := ot.2.2.2.2.2.2.2; rw [← en.2] at z; exact z
    · rw [oy]; exact dy x rfl
  · have ty : rt_T τ (bd_up δ x 1) t x 84 y = τ y := by unfold rt_T; rw [if_neg c]
    have wy : rt_W τ (bd_up δ x 1) ω t x 84 y = ω y := by unfold rt_W; rw [if_neg c]
    rw [ty, wy]
    by_cases yx : y = x
    · rw [dy y yx, fy y yx]
      refine ⟨.inr rfl, HY.2.1, by omega, HY.2.2.2.1, fun _ => ⟨by rw [yx]; exact tx, K.1, by omega, fun z z0 z1 nb => ?_⟩, fun z => ?_⟩
      · rw [yx] at nb
        by_cases hz : 0 ≤ τ z
        · exact tm z z0 z1 hz
        · have zx : ¬ z = x := fun e => by rw [e] at hz; exact hz tx
          have zr := rt_nb_rng x0 x1 z0 z1
          have zd : δ z = 0 := by
            have := H.2 z z0 z1
            rcases this.1 with w | w
            · exact w
            · have := (this.2.2.2.2.1 w).1; omega
          unfold rt_T
          rw [if_pos ⟨nb, zr.2.1, by rw [dn z zx]; exact zd, .inl (by omega)⟩]
          have := ht _ nb zr.2.1
          omega
      · have w := HY.2.2.2.2.2 z
        have ot := rt_oth w.1 w.2.1 w.2.2.1
        have px : ¬ wy_o (ω y) y = x := fun e => by rw [e, hx] at w; omega
        have P := (H.2 _ ot.1 ot.2.1).2.2.2.2.1 w.2.2.2.1
        refine ⟨w.1, w.2.1, w.2.2.1, by rw [dn _ px]; exact w.2.2.2.1, fun _ => by rw [fn _ px]; exact P.2.2.1⟩
    · rw [dn y yx, fn y yx]
      refine ⟨HY.1, HY.2.1, by omega, HY.2.2.2.1, fun d => ?_, fun z => ?_⟩
      · have w := HY.2.2.2.2.1 d
        exact ⟨w.1, w.2.1, by omega, fun z z0 z1 nb => tm z z0 z1 (w.2.2.2 z z0 z1 nb)⟩
      · have w := HY.2.2.2.2.2 z
        have ot := rt_oth w.1 w.2.1 w.2.2.1
        have px : ¬ wy_o (ω y) y = x := fun e => by rw [e, hx] at w; omega
        exact ⟨w.1, w.2.1, w.2.2.1, by rw [dn _ px]; exact w.2.2.2.1, fun d => by rw [fn _ px]; exact w.2.2.2.2 d⟩

