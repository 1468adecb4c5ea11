/-! route: the next crossing, the whole search, the walk back -/
def rt_sel (τ δ : Int → Int) : Nat → Int
  | 0 => -1
  | x + 1 => if δ x = 0 ∧ 0 ≤ τ x ∧ (rt_sel τ δ x < 0 ∨ τ x < τ (rt_sel τ δ x)) then x else rt_sel τ δ x
def rt_near (τ δ : Int → Int) (n x : Int) : Prop := 0 ≤ x ∧ x < n ∧ δ x = 0 ∧ 0 ≤ τ x ∧ ∀ y : Int, 0 ≤ y → y < n → δ y = 0 → 0 ≤ τ y → τ x < τ y ∨ (τ x = τ y ∧ x ≤ y)
theorem rt_sel_spec {τ δ : Int → Int} : ∀ n : Nat, (rt_sel τ δ n = -1 ∧ ∀ y : Int, 0 ≤ y → y < n → ¬ (δ y = 0 ∧ 0 ≤ τ y)) ∨ rt_near τ δ n (rt_sel τ δ n) := by
  intro n
  induction n with
  | zero => exact .inl ⟨rfl, fun y a b => by omega⟩
  | succ n ih =>
    have un : rt_sel τ δ (n + 1) = if δ n = 0 ∧ 0 ≤ τ n ∧ (rt_sel τ δ n < 0 ∨ τ n < τ (rt_sel τ δ n)) then (n : Int) else rt_sel τ δ n := rfl
    rw [un]
    by_cases c : δ n = 0 ∧ 0 ≤ τ n ∧ (rt_sel τ δ n < 0 ∨ τ n < τ (rt_sel τ δ n))
    · rw [if_pos c]
      refine .inr ⟨by omega, by omega, c.1, c.2.1, fun y y0 y1 dy ty => ?_⟩
      by_cases e : y = n
      · rw [e]; exact .inr ⟨rfl, Int.le_refl _⟩
      · rcases ih with h | h
        · exact absurd ⟨dy, ty⟩ (h.2 y y0 (by omega))
        · have := h.2.2.2.2 y y0 (by omega) dy ty
          have := h.1
          omega
    · rw [if_neg c]
      rcases ih with h | h
      · refine .inl ⟨h.1, fun y y0 y1 z => ?_⟩
        by_cases e : y = n
        · rw [e] at z; exact c ⟨z.1, z.2, .inl (by omega)⟩
        · exact h.2 y y0 (by omega) z
      · refine .inr ⟨h.1, by have := h.2.1; omega, h.2.2.1, h.2.2.2.1, fun y y0 y1 dy ty => ?_⟩
        by_cases e : y = n
        · rw [e] at dy ty ⊢
          have h2 := h.2.1
          by_cases l : τ n < τ (rt_sel τ δ n)
          · exact absurd ⟨dy, ty, .inr l⟩ c
          · omega
        · exact h.2.2.2.2 y y0 (by omega) dy ty
theorem rt_near_uniq {τ δ : Int → Int} {n x y : Int} (h : rt_near τ δ n x) (g : rt_near τ δ n y) : x = y := by
  have a := h.2.2.2.2 y g.1 g.2.1 g.2.2.1 g.2.2.2.1
  have b := g.2.2.2.2 x h.1 h.2.1 h.2.2.1 h.2.2.2.1
  omega
theorem rt_sel_of {τ δ : Int → Int} {n : Nat} {x : Int} (h : rt_near τ δ n x) : rt_sel τ δ n = x := by
  rcases rt_sel_spec (τ := τ) (δ := δ) n with g | g
  · exact absurd ⟨h.2.2.1, h.2.2.2.1⟩ (g.2 x h.1 h.2.1)
  · exact rt_near_uniq g h
def rt_run (t : Int → Int) (sink : Int) : Nat → (Int → Int) → (Int → Int) → (Int → Int) → (Int → Int)
  | 0, _, ω, _ => ω
  | k + 1, τ, ω, δ => if rt_sel τ δ 49 = sink then ω else rt_run t sink k (rt_T τ (bd_up δ (rt_sel τ δ 49) 1) t (rt_sel τ δ 49) 84) (rt_W τ (bd_up δ (rt_sel τ δ 49) 1) ω t (rt_sel τ δ 49) 84) (bd_up δ (rt_sel τ δ 49) 1)
/-- the tree -/
def rt_A (src : Int) (b : Int → Int) (x : Int) : Prop := x = src ∨ 0 ≤ b x
def rt_S (src : Int) (b : Int → Int) : Prop := 0 ≤ src ∧ src < 49 ∧ b src = -1 ∧ (∀ x : Int, 0 ≤ x → x < 49 → -1 ≤ b x ∧ b x < 84 ∧ (0 ≤ b x → x = rl_lo (b x) ∨ x = rl_hi (b x))) ∧ ∃ f : Int → Int, ∀ x : Int, 0 ≤ x → x < 49 → 0 ≤ f x ∧ f x < 49 ∧ (0 ≤ b x → f (wy_o (b x) x) < f x ∧ rt_A src b (wy_o (b x) x))
/-- what the search leaves -/
def rt_P (A : Int → Prop) (ω δ F : Int → Int) : Prop := ∀ y : Int, 0 ≤ y → y < 49 → δ y = 1 → ¬ A y → 0 ≤ ω y ∧ ω y < 84 ∧ (y = rl_lo (ω y) ∨ y = rl_hi (ω y)) ∧ δ (wy_o (ω y) y) = 1 ∧ F (wy_o (ω y) y) < F y
theorem rt_J_P {A : Int → Prop} {τ ω δ F : Int → Int} {k s : Int} (H : rt_J A τ ω δ F k) (s0 : 0 ≤ s) (s1 : s < 49) (hs : δ s = 0) (ts : 0 ≤ τ s) : rt_P A ω (bd_up δ s 1) (bd_up F s k) ∧ (∀ y : Int, 0 ≤ y → y < 49 → bd_up δ s 1 y = 1 → 0 ≤ bd_up F s k y ∧ bd_up F s k y < 49 ∧ (¬ A y → 0 < τ y)) := by
  have K := rt_J_k H s0 s1 hs
  have pos : ∀ y : Int, 0 ≤ y → y < 49 → bd_up δ s 1 y = 1 → ¬ A y → 0 < τ y := fun y y0 y1 d nA => by
    have HY := H.2 y y0 y1
    have z : ¬ τ y = 0 := fun e => nA (HY.2.2.2.1.2 e)
    by_cases e : y = s
    · rw [e] at z ⊢; omega
    · unfold bd_up at d; rw [if_neg e] at d
      have := (HY.2.2.2.2.1 d).1; omega
  refine ⟨fun y y0 y1 d nA => ?_, fun y y0 y1 d => ?_⟩
  · have HY := H.2 y y0 y1
    have w := HY.2.2.2.2.2 (pos y y0 y1 d nA)
    have ot := rt_oth w.1 w.2.1 w.2.2.1
    have px : ¬ wy_o (ω y) y = s := fun e => by rw [e, hs] at w; omega
    have Pp := (H.2 _ ot.1 ot.2.1).2.2.2.2.1 w.2.2.2.1
    refine ⟨w.1, w.2.1, w.2.2.1, by unfold bd_up; rw [if_neg px]; exact w.2.2.2.1, ?_⟩
    unfold bd_up at d ⊢
    rw [if_neg px]
    by_cases e : y = s
    · rw [if_pos e]; omega
    · rw [if_neg e] at d ⊢; exact w.2.2.2.2 d
  · refine ⟨?_, ?_, pos y y0 y1 d⟩
    · unfold bd_up at d ⊢
      by_cases e : y = s
      · rw [if_pos e]; omega
      · rw [if_neg e] at d ⊢; have := ((H.2 y y0 y1).2.2.2.2.1 d).2; omega
    · unfold bd_up at d ⊢
      by_cases e : y = s
      · rw [if_pos e]; omega
      · rw [if_neg e] at d ⊢; have := ((H.2 y y0 y1).2.2.2.2.1 d).2; omega
def rt_i (b : Int → Int) (e : Int) : Int := if b (rl_lo e) = e ∨ b (rl_hi e) = e then 1 else 0
theorem rt_i_rng {b : Int → Int} {e : Int} : rt_i b e = 0 ∨ rt_i b e = 1 := by unfold rt_i; split; exact .inr rfl; exact .inl rfl
theorem rt_i_A {src : Int} {b : Int → Int} (H : rt_S src b) {e : Int} (e0 : 0 ≤ e) (e1 : e < 84) (h : rt_i b e = 1) : rt_A src b (rl_lo e) ∧ rt_A src b (rl_hi e) := by
  obtain ⟨f, hf⟩ := H.2.2.2.2
  have lo := rl_lo_rng e0 e1
  have hi := rl_hi_rng e0 e1
  unfold rt_i at h
  by_cases c : b (rl_lo e) = e ∨ b (rl_hi e) = e
  · rcases c with c | c
    · have := (hf (rl_lo e) lo.1 lo.2.1).2.2 (by omega)
      rw [c, show wy_o e (rl_lo e) = rl_hi e from by unfold wy_o; omega] at this
      exact ⟨.inr (by omega), this.2⟩
    · have := (hf (rl_hi e) hi.1 hi.2.1).2.2 (by omega)
      rw [c, show wy_o e (rl_hi e) = rl_lo e from by unfold wy_o; omega] at this
      exact ⟨this.2, .inr (by omega)⟩
  · rw [if_neg c] at h; omega
theorem rt_i_up {b : Int → Int} {e x v : Int} (e0 : 0 ≤ e) (hx : b x = -1) (hv : x = rl_lo v ∨ x = rl_hi v) : rt_i (bd_up b x v) e = if e = v then 1 else rt_i b e := by
  by_cases ev : e = v
  · rw [if_pos ev]
    unfold rt_i bd_up
    rw [if_pos]
    rcases hv with h | h
    · left; rw [ev, if_pos h.symm]
    · right; rw [ev, if_pos h.symm]
  · rw [if_neg ev]
    unfold rt_i bd_up
    have k : ∀ y : Int, ((if y = x then v else b y) = e) ↔ b y = e := fun y => by
      by_cases q : y = x
      · rw [if_pos q, q, hx]; omega
      · rw [if_neg q]
    by_cases c : b (rl_lo e) = e ∨ b (rl_hi e) = e
    · rw [if_pos c, if_pos ((or_congr (k _) (k _)).2 c)]
    · rw [if_neg c, if_neg (fun z => c ((or_congr (k _) (k _)).1 z))]
/-- the walk from a sink back to the tree -/
def rt_pt (ω : Int → Int) (src : Int) : Nat → (Int → Int) → Int → (Int → Int)
  | 0, b, _ => b
  | k + 1, b, x => if x = src ∨ 0 ≤ b x then b else rt_pt ω src k (bd_up b x (ω x)) (wy_o (ω x) x)
def rt_I (src sink : Int) (bk ω δ F b : Int → Int) (x : Int) : Prop := 0 ≤ x ∧ x < 49 ∧ δ x = 1 ∧ 0 ≤ F x ∧ F x < 49 ∧ (x = sink ∨ 0 ≤ b sink) ∧ ∀ z : Int, 0 ≤ z → z < 49 → (rt_A src bk z → b z = bk z) ∧ (¬ rt_A src bk z → b z = -1 ∨ (b z = ω z ∧ δ z = 1 ∧ F x < F z ∧ (wy_o (ω z) z = x ∨ rt_A src b (wy_o (ω z) z))))
theorem rt_I_A {src sink : Int} {bk ω δ F b : Int → Int} {x : Int} (H : rt_I src sink bk ω δ F b x) : rt_A src b x ↔ rt_A src bk x := by
  obtain ⟨x0, x1, -, -, -, -, hz⟩ := H
  have h := hz x x0 x1
  constructor
  · intro a
    apply Classical.byContradiction
    intro n
    rcases a with a | a
    · exact n (.inl a)
    · rcases h.2 n with c | c
      · omega
      · have := c.2.2.1; omega
  · intro a
    rcases a with a | a
    · exact .inl a
    · exact .inr (by rw [h.1 (.inr a)]; exact a)
theorem rt_I_step {src sink : Int} {bk ω δ F b : Int → Int} {x : Int} (S : rt_S src bk) (P : rt_P (rt_A src bk) ω δ F) (Fb : ∀ y : Int, 0 ≤ y → y < 49 → δ y = 1 → 0 ≤ F y ∧ F y < 49) (H : rt_I src sink bk ω δ F b x) (hx : ¬ (x = src ∨ 0 ≤ b x)) : rt_I src sink bk ω δ F (bd_up b x (ω x)) (wy_o (ω x) x) ∧ 0 ≤ ω x ∧ ω x < 84 ∧ (x = rl_lo (ω x) ∨ x = rl_hi (ω x)) ∧ F (wy_o (ω x) x) < F x ∧ rt_i b (ω x) = 0 ∧ b x = -1 ∧ ¬ rt_A src bk x := by
  have nA : ¬ rt_A src bk x := fun a => hx ((rt_I_A H).2 a)
  obtain ⟨x0, x1, dx, f0, f1, sk, hz⟩ := H
  have p := P x x0 x1 dx nA
  have ot := rt_oth p.1 p.2.1 p.2.2.1
  have bx : b x = -1 := by
    rcases (hz x x0 x1).2 nA with c | c
    · exact c
    · have := c.2.2.1; omega
  have fo := Fb _ ot.1 ot.2.1 p.2.2.2.1
  refine ⟨⟨ot.1, ot.2.1, p.2.2.2.1, fo.1, fo.2, ?_, fun z z0 z1 => ?_⟩, p.1, p.2.1, p.2.2.1, p.2.2.2.2, ?_, bx, nA⟩
  · right
    unfold bd_up
    by_cases e : sink = x
    · rw [if_pos e]; exact p.1
    · rw [if_neg e]
      rcases sk with c | c
      · exact absurd c.symm e
      · exact c
  · have h := hz z z0 z1
    by_cases e : z = x
    · rw [e]
      refine ⟨fun a => absurd a nA, fun _ => .inr ⟨by unfold bd_up; rw [if_pos rfl], dx, p.2.2.2.2, .inl rfl⟩⟩
    · refine ⟨fun a => by unfold bd_up; rw [if_neg e]; exact h.1 a, fun n => ?_⟩
      rcases h.2 n with c | c
      · left; unfold bd_up; rw [if_neg e]; exact c
      · right
        refine ⟨by unfold bd_up; rw [if_neg e]; exact c.1, c.2.1, by have := p.2.2.2.2; omega, .inr ?_⟩
        unfold rt_A bd_up
        rcases c.2.2.2 with w | w
        · right; rw [w, if_pos rfl]; exact p.1
        · rcases w with w | w
          · exact .inl w
          · right
            by_cases g : wy_o (ω z) z = x
            · rw [if_pos g]; exact p.1
            · rw [if_neg g]; exact w
  · -- the edge is not in the tree yet
    have no : ¬ b (wy_o (ω x) x) = ω x := fun c => by
      have h := hz _ ot.1 ot.2.1
      by_cases a : rt_A src bk (wy_o (ω x) x)
      · rw [h.1 a] at c
        obtain ⟨f, hf⟩ := S.2.2.2.2
        have w := (hf _ ot.1 ot.2.1).2.2 (by rw [c]; exact p.1)
        rw [c, ot.2.2.2.2.2.1] at w
        exact nA w.2
      · rcases h.2 a with g | g
        · omega
        · have := g.2.2.1; have := p.2.2.2.2; omega
    unfold rt_i
    rw [if_neg]
    rintro (c | c)
    · rcases p.2.2.1 with g | g
      · rw [← g, bx] at c; omega
      · exact no (by rw [show wy_o (ω x) x = rl_lo (ω x) from by unfold wy_o; omega]; exact c)
    · rcases p.2.2.1 with g | g
      · exact no (by rw [show wy_o (ω x) x = rl_hi (ω x) from by unfold wy_o; omega]; exact c)
      · rw [← g, bx] at c; omega
theorem rt_I_end {src sink : Int} {bk ω δ F b : Int → Int} {x : Int} (S : rt_S src bk) (P : rt_P (rt_A src bk) ω δ F) (Fb : ∀ y : Int, 0 ≤ y → y < 49 → δ y = 1 → 0 ≤ F y ∧ F y < 49) (H : rt_I src sink bk ω δ F b x) (hx : x = src ∨ 0 ≤ b x) : rt_S src b ∧ rt_A src b sink ∧ ∀ z : Int, 0 ≤ z → z < 49 → rt_A src bk z → rt_A src b z := by
  have xA : rt_A src bk x := (rt_I_A H).1 hx
  obtain ⟨x0, x1, dx, f0, f1, sk, hz⟩ := H
  obtain ⟨s0, s1, ss, sv, f, hf⟩ := S
  have mono : ∀ z : Int, 0 ≤ z → z < 49 → rt_A src bk z → rt_A src b z := fun z z0 z1 a => by
    have := (hz z z0 z1).1 a
    rcases a with a | a
    · exact .inl a
    · exact .inr (by omega)
  refine ⟨⟨s0, s1, by rw [(hz src s0 s1).1 (.inl rfl)]; exact ss, fun z z0 z1 => ?_, ?_⟩, ?_, mono⟩
  · by_cases a : rt_A src bk z
    · rw [(hz z z0 z1).1 a]; exact sv z z0 z1
    · rcases (hz z z0 z1).2 a with c | c
      · omega
      · have p := P z z0 z1 c.2.1 a
        rw [c.1]; exact ⟨by omega, p.2.1, fun _ => p.2.2.1⟩
  · -- a height without a bound, then its rank
    have g : ∃ g : Int → Int, ∀ z : Int, 0 ≤ z → z < 49 → 0 ≤ b z → g (wy_o (b z) z) < g z ∧ rt_A src b (wy_o (b z) z) := by
      refine ⟨fun z => if bk z < 0 ∧ ¬ z = src then 49 + F z else f z, fun z z0 z1 h => ?_⟩
      have inA : ∀ y : Int, rt_A src bk y → ¬ (bk y < 0 ∧ ¬ y = src) := fun y a q => by rcases a with a | a; exact q.2 a; omega
      have ninA : ∀ y : Int, ¬ rt_A src bk y → (bk y < 0 ∧ ¬ y = src) := fun y a => ⟨Int.not_le.mp (fun q => a (.inr q)), fun q => a (.inl q)⟩
      by_cases a : rt_A src bk z
      · have e := (hz z z0 z1).1 a
        have v := hf z z0 z1
        rw [e] at h ⊢
        have w := v.2.2 h
        have ot := rt_oth h (sv z z0 z1).2.1 ((sv z z0 z1).2.2 h)
        refine ⟨?_, mono _ ot.1 ot.2.1 w.2⟩
        show (if _ then _ else _) < (if _ then _ else _)
        rw [if_neg (inA _ w.2), if_neg (inA _ a)]; exact w.1
      · rcases (hz z z0 z1).2 a with c | c
        · omega
        · have p := P z z0 z1 c.2.1 a
          have ot := rt_oth p.1 p.2.1 p.2.2.1
          rw [c.1]
          refine ⟨?_, ?_⟩
          · show (if _ then _ else _) < (if _ then _ else _)
            rw [if_pos (ninA _ a)]
            have fz := Fb z z0 z1 c.2.1
            by_cases q : rt_A src bk (wy_o (ω z) z)
            · rw [if_neg (inA _ q)]; have := (hf _ ot.1 ot.2.1).2.1; omega
            · rw [if_pos (ninA _ q)]; have := p.2.2.2.2; omega
          · rcases c.2.2.2 with w | w
            · rw [w]; exact hx
            · exact w
    obtain ⟨g, hg⟩ := g
    have vals : ∀ z : Int, 0 ≤ z → z < 49 → 0 ≤ b z → 0 ≤ wy_o (b z) z ∧ wy_o (b z) z < 49 := fun z z0 z1 h => by
      by_cases a : rt_A src bk z
      · have e := (hz z z0 z1).1 a
        rw [e] at h ⊢
        have ot := rt_oth h (sv z z0 z1).2.1 ((sv z z0 z1).2.2 h)
        exact ⟨ot.1, ot.2.1⟩
      · rcases (hz z z0 z1).2 a with c | c
        · omega
        · have p := P z z0 z1 c.2.1 a
          have ot := rt_oth p.1 p.2.1 p.2.2.1
          rw [c.1]; exact ⟨ot.1, ot.2.1⟩
    have lt : ∀ (u v : Int) (n : Nat), g u < g v → ma_sum (fun y => if g y < g u then 1 else 0) n ≤ ma_sum (fun y => if g y < g v then 1 else 0) n ∧ (0 ≤ u → u < n → ma_sum (fun y => if g y < g u then 1 else 0) n < ma_sum (fun y => if g y < g v then 1 else 0) n) := by
      intro u v n huv
      induction n with
      | zero => exact ⟨Int.le_refl _, fun a b => by omega⟩
      | succ n ih =>
        show ma_sum (fun y => if g y < g u then 1 else 0) n + (if g n < g u then 1 else 0) ≤ ma_sum (fun y => if g y < g v then 1 else 0) n + (if g n < g v then 1 else 0) ∧ (0 ≤ u → u < ((n + 1 : Nat) : Int) → ma_sum (fun y => if g y < g u then 1 else 0) n + (if g n < g u then 1 else 0) < ma_sum (fun y => if g y < g v then 1 else 0) n + (if g n < g v then 1 else 0))
        have st : (if g n < g u then (1 : Int) else 0) ≤ (if g n < g v then 1 else 0) := by
          by_cases q : g n < g u
          · rw [if_pos q, if_pos (by omega)]; exact Int.le_refl _
          · rw [if_neg q]; split <;> omega
        refine ⟨by omega, fun a b => ?_⟩
        by_cases e : u = n
        · have : (if g n < g u then (1 : Int) else 0) = 0 := by rw [if_neg (by rw [e]; omega)]
          have : (if g n < g v then (1 : Int) else 0) = 1 := by rw [if_pos (by rw [← e]; exact huv)]
          omega
        · have := ih.2 a (by omega); omega
    refine ⟨fun z => ma_sum (fun y => if g y < g z then 1 else 0) 49, fun z z0 z1 => ?_⟩
    have r0 := ma_sum_rng (f := fun y => if g y < g z then 1 else 0) (b := 1) 49 (fun i _ _ => by
      show 0 ≤ (if g i < g z then (1 : Int) else 0) ∧ (if g i < g z then (1 : Int) else 0) ≤ 1
      split <;> omega)
    have r1 : ma_sum (fun y => if g y < g z then 1 else 0) 49 < 49 := by
      have up := rt_sum_up (f := fun y => if g y < g z then 1 else 0) (x := z) (v := 1) 49 z0 z1
      have r2 := ma_sum_rng (f := bd_up (fun y => if g y < g z then 1 else 0) z 1) (b := 1) 49 (fun i _ _ => by
        unfold bd_up
        by_cases q : i = z
        · rw [if_pos q]; omega
        · rw [if_neg q]
          show 0 ≤ (if g i < g z then (1 : Int) else 0) ∧ (if g i < g z then (1 : Int) else 0) ≤ 1
          split <;> omega)
      have : (fun y => if g y < g z then (1 : Int) else 0) z = 0 := by show (if g z < g z then (1 : Int) else 0) = 0; rw [if_neg (by omega)]
      omega
    refine ⟨r0.1, r1, fun h => ?_⟩
    have := hg z z0 z1 h
    have vv := vals z z0 z1 h
    exact ⟨(lt _ z 49 this.1).2 vv.1 (by omega), this.2⟩
  · rcases sk with c | c
    · rw [← c]; exact hx
    · exact .inr c

