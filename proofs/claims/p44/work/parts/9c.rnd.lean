/-! route: tolls, a net, a round, all rounds -/
def rt_t (U p : Int → Int) (r e : Int) : Int := 1 + p e + (if 0 < U e + 1 - 2 then 4 * r * (U e + 1 - 2) else 0)
theorem rt_mul {r u : Int} (r0 : 1 ≤ r) (r1 : r ≤ 20) (u0 : 0 ≤ u) (u1 : u ≤ 47) : 0 ≤ 4 * r * u ∧ 4 * r * u ≤ 3760 := by
  have a : 4 * r * u ≤ 80 * 47 := Int.mul_le_mul (by omega) u1 u0 (by omega)
  have b := Int.mul_nonneg (a := 4 * r) (b := u) (by omega) u0
  omega
theorem rt_t_rng {U p : Int → Int} {r e : Int} (hU : 0 ≤ U e ∧ U e ≤ 47) (hp : 0 ≤ p e ∧ p e ≤ 1000) (r0 : 1 ≤ r) (r1 : r ≤ 20) : 1 ≤ rt_t U p r e ∧ rt_t U p r e ≤ 5000 := by
  unfold rt_t
  split
  · have := rt_mul (r := r) (u := U e + 1 - 2) r0 r1 (by omega) (by omega); omega
  · omega
def rt_t0 (src : Int) (b : Int → Int) : Int → Int := fun y => if y = src ∨ 0 ≤ b y then 0 else -1
def rt_add (t : Int → Int) (src : Int) (b : Int → Int) (sink : Int) : Int → Int := rt_pt (rt_run t sink 49 (rt_t0 src b) (fun _ => -1) (fun _ => 0)) src 49 b sink
def rt_lay (t : Int → Int) (src : Int) (pin : Int → Int) : Nat → Int → Int
  | 0 => fun _ => -1
  | x + 1 => if ¬ pin x = 0 ∧ ¬ (x = src ∨ 0 ≤ rt_lay t src pin x x) then rt_add t src (rt_lay t src pin x) x else rt_lay t src pin x
theorem rt_J_init {src : Int} {b ω F : Int → Int} : rt_J (rt_A src b) (rt_t0 src b) ω (fun _ => 0) F 0 := rt_J0 (fun y y0 y1 => by
  unfold rt_A rt_t0
  exact ⟨fun a => by rw [if_pos a], fun a => by rw [if_neg a]⟩)
/-- the search finds the sink -/
theorem rt_run_P {A : Int → Prop} {t : Int → Int} {s q : Int} (ht : ∀ e : Int, 0 ≤ e → e < 84 → 1 ≤ t e ∧ t e ≤ 5000) (s0 : 0 ≤ s) (s1 : s < 49) (q0 : 0 ≤ q) (q1 : q < 49) (hq : A q) : ∀ (j : Nat) (k : Int) (τ ω δ F : Int → Int), k + j = 49 → δ s = 0 → rt_J A τ ω δ F k → ∃ δ' F' : Int → Int, rt_P A (rt_run t s j τ ω δ) δ' F' ∧ δ' s = 1 ∧ ∀ y : Int, 0 ≤ y → y < 49 → δ' y = 1 → 0 ≤ F' y ∧ F' y < 49 := by
  intro j
  induction j with
  | zero => intro k τ ω δ F hk hs H; have := rt_J_k H s0 s1 hs; omega
  | succ j ih =>
    intro k τ ω δ F hk hs H
    have un : rt_run t s (j + 1) τ ω δ = if rt_sel τ δ 49 = s then ω else rt_run t s j (rt_T τ (bd_up δ (rt_sel τ δ 49) 1) t (rt_sel τ δ 49) 84) (rt_W τ (bd_up δ (rt_sel τ δ 49) 1) ω t (rt_sel τ δ 49) 84) (bd_up δ (rt_sel τ δ 49) 1) := rfl
    rcases rt_sel_spec (τ := τ) (δ := δ) 49 with g | g
    · exact absurd (fun y y0 y1 ty dy => g.2 y y0 y1 ⟨dy, ty⟩) (rt_J_open H q0 q1 hq s0 s1 hs)
    · rw [un]
      by_cases e : rt_sel τ δ 49 = s
      · rw [if_pos e]
        rw [e] at g
        have P := rt_J_P H s0 s1 hs g.2.2.2.1
        exact ⟨_, _, P.1, by unfold bd_up; rw [if_pos rfl], fun y y0 y1 d => ⟨(P.2 y y0 y1 d).1, (P.2 y y0 y1 d).2.1⟩⟩
      · rw [if_neg e]
        refine ih (k + 1) _ _ _ _ (by omega) ?_ (rt_J_step H ht g.1 g.2.1 g.2.2.1 g.2.2.2.1)
        unfold bd_up; rw [if_neg (Ne.symm e)]; exact hs
theorem rt_pt_ok {src sink : Int} {bk ω δ F : Int → Int} (S : rt_S src bk) (P : rt_P (rt_A src bk) ω δ F) (Fb : ∀ y : Int, 0 ≤ y → y < 49 → δ y = 1 → 0 ≤ F y ∧ F y < 49) : ∀ (k : Nat) (b : Int → Int) (x : Int), F x < k → rt_I src sink bk ω δ F b x → rt_S src (rt_pt ω src k b x) ∧ rt_A src (rt_pt ω src k b x) sink ∧ ∀ z : Int, 0 ≤ z → z < 49 → rt_A src bk z → rt_A src (rt_pt ω src k b x) z := by
  intro k
  induction k with
  | zero => intro b x h H; have := H.2.2.2.1; omega
  | succ k ih =>
    intro b x h H
    have un : rt_pt ω src (k + 1) b x = if x = src ∨ 0 ≤ b x then b else rt_pt ω src k (bd_up b x (ω x)) (wy_o (ω x) x) := rfl
    rw [un]
    by_cases c : x = src ∨ 0 ≤ b x
    · rw [if_pos c]; exact rt_I_end S P Fb H c
    · rw [if_neg c]
      have st := rt_I_step S P Fb H c
      exact ih _ _ (by have := st.2.2.2.2.1; omega) st.1
theorem rt_I_init {src sink : Int} {b ω δ F : Int → Int} (s0 : 0 ≤ sink) (s1 : sink < 49) (ds : δ sink = 1) (Fb : 0 ≤ F sink ∧ F sink < 49) (S : rt_S src b) : rt_I src sink b ω δ F b sink := by
  refine ⟨s0, s1, ds, Fb.1, Fb.2, .inl rfl, fun z z0 z1 => ⟨fun _ => rfl, fun n => ?_⟩⟩
  left
  have := (S.2.2.2.1 z z0 z1).1
  have : ¬ 0 ≤ b z := fun q => n (.inr q)
  omega
theorem rt_add_ok {t : Int → Int} {src sink : Int} {b : Int → Int} (ht : ∀ e : Int, 0 ≤ e → e < 84 → 1 ≤ t e ∧ t e ≤ 5000) (S : rt_S src b) (s0 : 0 ≤ sink) (s1 : sink < 49) : rt_S src (rt_add t src b sink) ∧ rt_A src (rt_add t src b sink) sink ∧ ∀ z : Int, 0 ≤ z → z < 49 → rt_A src b z → rt_A src (rt_add t src b sink) z := by
  obtain ⟨δ, F, P, ds, Fb⟩ := rt_run_P (A := rt_A src b) (s := sink) ht s0 s1 S.1 S.2.1 (.inl rfl) 49 0 _ (fun _ => -1) _ (fun _ => 0) (by omega) rfl rt_J_init
  exact rt_pt_ok S P Fb 49 b sink (by have := Fb sink s0 s1 ds; omega) (rt_I_init s0 s1 ds (Fb sink s0 s1 ds) S)
theorem rt_S0 {src : Int} (s0 : 0 ≤ src) (s1 : src < 49) : rt_S src (fun _ => -1) := ⟨s0, s1, rfl, fun x _ _ => ⟨Int.le_refl _, by show (-1 : Int) < 84; decide, fun z => absurd (show (0 : Int) ≤ -1 from z) (by decide)⟩, fun _ => 0, fun x _ _ => ⟨Int.le_refl _, by show (0 : Int) < 49; decide, fun z => absurd (show (0 : Int) ≤ -1 from z) (by decide)⟩⟩
theorem rt_lay_ok {t : Int → Int} {src : Int} {pin : Int → Int} (ht : ∀ e : Int, 0 ≤ e → e < 84 → 1 ≤ t e ∧ t e ≤ 5000) (s0 : 0 ≤ src) (s1 : src < 49) : ∀ x : Nat, x ≤ 49 → rt_S src (rt_lay t src pin x) ∧ ∀ y : Int, 0 ≤ y → y < x → ¬ pin y = 0 → rt_A src (rt_lay t src pin x) y := by
  intro x
  induction x with
  | zero => exact fun _ => ⟨rt_S0 s0 s1, fun y a b => by omega⟩
  | succ x ih =>
    intro hx
    have un : rt_lay t src pin (x + 1) = if ¬ pin x = 0 ∧ ¬ ((x : Int) = src ∨ 0 ≤ rt_lay t src pin x x) then rt_add t src (rt_lay t src pin x) x else rt_lay t src pin x := rfl
    obtain ⟨S, h⟩ := ih (by omega)
    rw [un]
    by_cases c : ¬ pin x = 0 ∧ ¬ ((x : Int) = src ∨ 0 ≤ rt_lay t src pin x x)
    · rw [if_pos c]
      have o := rt_add_ok ht S (sink := x) (by omega) (by omega)
      refine ⟨o.1, fun y y0 y1 hy => ?_⟩
      by_cases e : y = x
      · rw [e]; exact o.2.1
      · exact o.2.2 y y0 (by omega) (h y y0 (by omega) hy)
    · rw [if_neg c]
      refine ⟨S, fun y y0 y1 hy => ?_⟩
      by_cases e : y = x
      · rw [e] at hy ⊢
        apply Classical.byContradiction
        intro z
        exact c ⟨hy, z⟩
      · exact h y y0 (by omega) hy
theorem rt_lay_no {t : Int → Int} {src : Int} {pin : Int → Int} : ∀ x : Nat, (∀ y : Int, 0 ≤ y → y < x → pin y = 0) → rt_lay t src pin x = fun _ => -1 := by
  intro x
  induction x with
  | zero => exact fun _ => rfl
  | succ x ih =>
    intro h
    have un : rt_lay t src pin (x + 1) = if ¬ pin x = 0 ∧ ¬ ((x : Int) = src ∨ 0 ≤ rt_lay t src pin x x) then rt_add t src (rt_lay t src pin x) x else rt_lay t src pin x := rfl
    rw [un, if_neg (fun z => z.1 (h x (by omega) (by omega)))]
    exact ih (fun y y0 y1 => h y y0 (by omega))
/-- the state of all nets: their trees and how many use an edge -/
abbrev rt_st := (Int → Int → Int) × (Int → Int)
def rt_U (s : rt_st) (n : Int) : Int → Int := fun e => s.2 e - rt_i (s.1 n) e
def rt_net (r : Int) (p src : Int → Int) (pin : Int → Int → Int) (n : Int) (s : rt_st) : rt_st :=
  (fun k => if k = n then rt_lay (rt_t (rt_U s n) p r) (src n) (pin n) 49 else s.1 k, fun e => rt_U s n e + rt_i (rt_lay (rt_t (rt_U s n) p r) (src n) (pin n) 49) e)
def rt_nets (r : Int) (p src : Int → Int) (pin : Int → Int → Int) (s : rt_st) : Nat → rt_st
  | 0 => s
  | n + 1 => rt_net r p src pin n (rt_nets r p src pin s n)
def rt_pr (p u : Int → Int) : Int → Int := fun e => p e + (if 0 < u e - 2 then u e - 2 else 0)
def rt_cr (u : Int → Int) : Int := ma_sum (fun e => if 2 < u e then 1 else 0) 84
def rt_rs (N : Nat) (src : Int → Int) (pin : Int → Int → Int) : Nat → Int → (Int → Int) → rt_st → Int × rt_st
  | 0, r, _, s => (r, s)
  | k + 1, r, p, s => if rt_cr (rt_nets (r + 1) p src pin s N).2 = 0 then (r + 1, rt_nets (r + 1) p src pin s N) else rt_rs N src pin k (r + 1) (rt_pr p (rt_nets (r + 1) p src pin s N).2) (rt_nets (r + 1) p src pin s N)
/-- what holds of it; nets below 'done' have all their sinks -/
def rt_H (src : Int) (b : Int → Int) : Prop := (∀ x : Int, 0 ≤ x → x < 49 → b x = -1) ∨ rt_S src b
def rt_ns (src : Int → Int) (pin : Int → Int → Int) (n : Int) : Prop := ∀ x : Int, 0 ≤ x → x < 49 → ¬ pin n x = 0 → 0 ≤ src n ∧ src n < 49
def rt_G (N : Nat) (src : Int → Int) (pin : Int → Int → Int) (s : rt_st) (dn : Int) : Prop :=
  (∀ n : Int, 0 ≤ n → n < N → rt_H (src n) (s.1 n)) ∧ (∀ e : Int, 0 ≤ e → e < 84 → s.2 e = ma_sum (fun n => rt_i (s.1 n) e) N) ∧
  ∀ n : Int, 0 ≤ n → n < N → n < dn → ((∀ x : Int, 0 ≤ x → x < 49 → pin n x = 0) → ∀ x : Int, 0 ≤ x → x < 49 → s.1 n x = -1) ∧ (∀ x : Int, 0 ≤ x → x < 49 → ¬ pin n x = 0 → rt_S (src n) (s.1 n) ∧ rt_A (src n) (s.1 n) x)
theorem rt_G_u {N : Nat} {src : Int → Int} {pin : Int → Int → Int} {s : rt_st} {dn : Int} (H : rt_G N src pin s dn) (N1 : N ≤ 48) {e : Int} (e0 : 0 ≤ e) (e1 : e < 84) : 0 ≤ s.2 e ∧ s.2 e ≤ 48 ∧ ∀ n : Int, 0 ≤ n → n < N → 0 ≤ rt_U s n e ∧ rt_U s n e ≤ 47 := by
  have a := ma_sum_rng (f := fun n => rt_i (s.1 n) e) (b := 1) N (fun i _ _ => by
    show 0 ≤ rt_i (s.1 i) e ∧ rt_i (s.1 i) e ≤ 1
    rcases rt_i_rng (b := s.1 i) (e := e) with z | z <;> omega)
  have b := H.2.1 e e0 e1
  refine ⟨by omega, by omega, fun n n0 n1 => ?_⟩
  have up : ∀ v : Int, 0 ≤ v → v ≤ 1 → 0 ≤ ma_sum (bd_up (fun n => rt_i (s.1 n) e) n v) N ∧ ma_sum (bd_up (fun n => rt_i (s.1 n) e) n v) N ≤ N := fun v v0 v1 => by
    have := ma_sum_rng (f := bd_up (fun n => rt_i (s.1 n) e) n v) (b := 1) N (fun i _ _ => by
      unfold bd_up
      by_cases q : i = n
      · rw [if_pos q]; omega
      · rw [if_neg q]
        show 0 ≤ rt_i (s.1 i) e ∧ rt_i (s.1 i) e ≤ 1
        rcases rt_i_rng (b := s.1 i) (e := e) with z | z <;> omega)
    omega
  have u0 := up 0 (by omega) (by omega)
  have u1 := up 1 (by omega) (by omega)
  rw [rt_sum_up N n0 n1] at u0 u1
  unfold rt_U
  have : (fun n => rt_i (s.1 n) e) n = rt_i (s.1 n) e := rfl
  omega
theorem rt_net_ok {N : Nat} {r : Int} {p src : Int → Int} {pin : Int → Int → Int} {s : rt_st} {dn n : Int} (H : rt_G N src pin s dn) (N1 : N ≤ 48) (n0 : 0 ≤ n) (n1 : n < N) (hd : n ≤ dn) (hs : rt_ns src pin n) (hp : ∀ e : Int, 0 ≤ e → e < 84 → 0 ≤ p e ∧ p e ≤ 1000) (r0 : 1 ≤ r) (r1 : r ≤ 20) : rt_G N src pin (rt_net r p src pin n s) (if n = dn then dn + 1 else dn) := by
  have tr : ∀ e : Int, 0 ≤ e → e < 84 → 1 ≤ rt_t (rt_U s n) p r e ∧ rt_t (rt_U s n) p r e ≤ 5000 := fun e e0 e1 => rt_t_rng ((rt_G_u H N1 e0 e1).2.2 n n0 n1) (hp e e0 e1) r0 r1
  have e1' : (rt_net r p src pin n s).1 n = rt_lay (rt_t (rt_U s n) p r) (src n) (pin n) 49 := by show (if n = n then _ else _) = _; rw [if_pos rfl]
  have e2' : ∀ k : Int, ¬ k = n → (rt_net r p src pin n s).1 k = s.1 k := fun k hk => by show (if k = n then _ else _) = _; rw [if_neg hk]
  have lay : ((∀ x : Int, 0 ≤ x → x < 49 → pin n x = 0) ∧ rt_lay (rt_t (rt_U s n) p r) (src n) (pin n) 49 = fun _ => -1) ∨ (rt_S (src n) (rt_lay (rt_t (rt_U s n) p r) (src n) (pin n) 49) ∧ (∃ x : Int, 0 ≤ x ∧ x < 49 ∧ ¬ pin n x = 0) ∧ ∀ y : Int, 0 ≤ y → y < 49 → ¬ pin n y = 0 → rt_A (src n) (rt_lay (rt_t (rt_U s n) p r) (src n) (pin n) 49) y) := by
    by_cases c : ∀ x : Int, 0 ≤ x → x < 49 → pin n x = 0
    · exact .inl ⟨c, rt_lay_no 49 c⟩
    · have : ∃ x : Int, 0 ≤ x ∧ x < 49 ∧ ¬ pin n x = 0 := by
        apply Classical.byContradiction
        intro z
        exact c (fun x x0 x1 => Classical.byContradiction (fun w => z ⟨x, x0, x1, w⟩))
      obtain ⟨x, x0, x1, hx⟩ := this
      have ss := hs x x0 x1 hx
      have o := rt_lay_ok (pin := pin n) tr ss.1 ss.2 49 (Nat.le_refl 49)
      exact .inr ⟨o.1, ⟨x, x0, x1, hx⟩, o.2⟩
  refine ⟨fun k k0 k1 => ?_, fun e e0 ee => ?_, fun k k0 k1 kd => ?_⟩
  · by_cases e : k = n
    · rw [e, e1']
      rcases lay with z | z
      · left; rw [z.2]; exact fun _ _ _ => rfl
      · exact .inr z.1
    · rw [e2' k e]; exact H.1 k k0 k1
  · show rt_U s n e + rt_i _ e = _
    have up := rt_sum_up (f := fun k => rt_i (s.1 k) e) (x := n) (v := rt_i (rt_lay (rt_t (rt_U s n) p r) (src n) (pin n) 49) e) N n0 n1
    rw [ma_sum_cong (g := fun k => rt_i ((rt_net r p src pin n s).1 k) e) N (fun i i0 i1 => by
      unfold bd_up
      by_cases q : i = n
      · rw [if_pos q, q, e1']
      · rw [if_neg q, e2' i q])] at up
    rw [up]
    unfold rt_U
    have := H.2.1 e e0 ee
    have : (fun k => rt_i (s.1 k) e) n = rt_i (s.1 n) e := rfl
    omega
  · by_cases e : k = n
    · rw [e, e1']
      rcases lay with z | z
      · exact ⟨fun _ x _ _ => by rw [z.2], fun x x0 x1 hx => absurd (z.1 x x0 x1) hx⟩
      · refine ⟨fun w => ?_, fun x x0 x1 hx => ⟨z.1, z.2.2 x x0 x1 hx⟩⟩
        obtain ⟨x, x0, x1, hx⟩ := z.2.1
        exact absurd (w x x0 x1) hx
    · rw [e2' k e]
      refine H.2.2 k k0 k1 ?_
      by_cases q : n = dn
      · rw [if_pos q] at kd; omega
      · rw [if_neg q] at kd; exact kd
theorem rt_nets_ok {N : Nat} {r : Int} {p src : Int → Int} {pin : Int → Int → Int} {s : rt_st} {dn : Int} (H : rt_G N src pin s dn) (hdn : dn = 0 ∨ dn = N) (N1 : N ≤ 48) (hs : ∀ n : Int, 0 ≤ n → n < N → rt_ns src pin n) (hp : ∀ e : Int, 0 ≤ e → e < 84 → 0 ≤ p e ∧ p e ≤ 1000) (r0 : 1 ≤ r) (r1 : r ≤ 20) : ∀ n : Nat, n ≤ N → rt_G N src pin (rt_nets r p src pin s n) (if dn = 0 then n else dn) := by
  intro n
  induction n with
  | zero =>
    intro _
    by_cases e : dn = 0
    · rw [if_pos e]; rw [e] at H; exact H
    · rw [if_neg e]; exact H
  | succ n ih =>
    intro hn
    have h := rt_net_ok (r := r) (p := p) (n := n) (ih (by omega)) N1 (by omega) (by omega) (by by_cases e : dn = 0; (rw [if_pos e]; omega); (rw [if_neg e]; omega)) (hs n (by omega) (by omega)) hp r0 r1
    by_cases e : dn = 0
    · rw [if_pos e] at h ⊢
      rw [if_pos rfl] at h
      exact h
    · rw [if_neg e] at h ⊢
      rw [if_neg (by omega)] at h
      exact h
theorem rt_cr_0 {u : Int → Int} : rt_cr u = 0 ↔ ∀ e : Int, 0 ≤ e → e < 84 → u e ≤ 2 := by
  have nn : ∀ i : Int, 0 ≤ (fun e => if 2 < u e then (1 : Int) else 0) i := fun i => by show 0 ≤ (if 2 < u i then (1 : Int) else 0); split <;> omega
  constructor
  · intro h e e0 e1
    apply Classical.byContradiction
    intro z
    have up := rt_sum_up (f := fun e => if 2 < u e then 1 else 0) (x := e) (v := 0) 84 e0 e1
    have r := ma_sum_rng (f := bd_up (fun e => if 2 < u e then 1 else 0) e 0) (b := 1) 84 (fun i _ _ => by
      unfold bd_up
      by_cases q : i = e
      · rw [if_pos q]; omega
      · rw [if_neg q]
        show 0 ≤ (if 2 < u i then (1 : Int) else 0) ∧ (if 2 < u i then (1 : Int) else 0) ≤ 1
        split <;> omega)
    have : (fun e => if 2 < u e then (1 : Int) else 0) e = 1 := by show (if 2 < u e then (1 : Int) else 0) = 1; rw [if_pos (by omega)]
    unfold rt_cr at h
    omega
  · intro h
    unfold rt_cr
    rw [ma_sum_cong (g := fun _ => 0) 84 (fun i i0 i1 => by
      show (if 2 < u i then (1 : Int) else 0) = 0
      have := h i i0 (by omega)
      rw [if_neg (by omega)])]
    exact ma_sum_zero 84
theorem rt_rs_ok {N : Nat} {src : Int → Int} {pin : Int → Int → Int} (N1 : N ≤ 48) (hs : ∀ n : Int, 0 ≤ n → n < N → rt_ns src pin n) : ∀ (k : Nat) (r : Int) (p : Int → Int) (s : rt_st) (dn : Int), (dn = 0 ∧ 1 ≤ k ∨ dn = N) → rt_G N src pin s dn → 0 ≤ r → r + k ≤ 20 → (∀ e : Int, 0 ≤ e → e < 84 → 0 ≤ p e ∧ p e ≤ 46 * r) → r ≤ (rt_rs N src pin k r p s).1 ∧ (rt_rs N src pin k r p s).1 ≤ r + k ∧ rt_G N src pin (rt_rs N src pin k r p s).2 N := by
  intro k
  induction k with
  | zero =>
    intro r p s dn hd H r0 r1 hp
    show r ≤ r ∧ r ≤ r + 0 ∧ rt_G N src pin s N
    refine ⟨by omega, by omega, ?_⟩
    rcases hd with z | z
    · omega
    · rw [← z]; exact H
  | succ k ih =>
    intro r p s dn hd H r0 r1 hp
    have un : rt_rs N src pin (k + 1) r p s = if rt_cr (rt_nets (r + 1) p src pin s N).2 = 0 then (r + 1, rt_nets (r + 1) p src pin s N) else rt_rs N src pin k (r + 1) (rt_pr p (rt_nets (r + 1) p src pin s N).2) (rt_nets (r + 1) p src pin s N) := rfl
    have G := rt_nets_ok (r := r + 1) (p := p) H (by omega) N1 hs (fun e e0 e1 => by have := hp e e0 e1; omega) (by omega) (by omega) N (Nat.le_refl N)
    have G' : rt_G N src pin (rt_nets (r + 1) p src pin s N) N := by
      by_cases e : dn = 0
      · rw [if_pos e] at G; exact G
      · rw [if_neg e] at G; rw [show dn = N from by omega] at G; exact G
    rw [un]
    by_cases c : rt_cr (rt_nets (r + 1) p src pin s N).2 = 0
    · rw [if_pos c]; exact ⟨by show r ≤ r + 1; omega, by show r + 1 ≤ r + ((k + 1 : Nat) : Int); omega, G'⟩
    · rw [if_neg c]
      have := ih (r + 1) (rt_pr p (rt_nets (r + 1) p src pin s N).2) _ N (.inr rfl) G' (by omega) (by omega) (fun e e0 e1 => by
        have a := hp e e0 e1
        have b := rt_G_u G' N1 e0 e1
        unfold rt_pr
        split <;> omega)
      exact ⟨by omega, by omega, this.2.2⟩

