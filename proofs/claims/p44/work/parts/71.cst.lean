theorem cu_pin_rng {μ : ma_M} (Hc : rl_c μ) (Hp : cu_q μ) {n x : Int} (h : rl_pin μ n x) : 0 ≤ x ∧ x < 49 := by
  rcases h with ⟨b, k, b0, b1, _, _, _, e⟩ | ⟨o, o0, o1, _, e⟩
  · have := Hp.1 b b0 b1
    have := rl_x_rng this.2.1 this.2.2.1
    omega
  · have := Hc.2.2.2.2.2.2.2.1; omega
/-- the length of a net -/
def cu_len (μ : ma_M) (n L : Int) : Prop := ∃ a b c d : Int, cu_mm (cu_S μ n) cu_col a b ∧ cu_mm (cu_S μ n) cu_rw c d ∧ L = b - a + d - c
theorem cu_len_uniq {μ : ma_M} {n L M : Int} (h : cu_len μ n L) (h' : cu_len μ n M) : L = M := by
  obtain ⟨a, b, c, d, h1, h2, e⟩ := h
  obtain ⟨a', b', c', d', h1', h2', e'⟩ := h'
  have := cu_mm_uniq h1 h1' (fun _ => Iff.rfl)
  have := cu_mm_uniq h2 h2' (fun _ => Iff.rfl)
  omega
theorem cu_len_rng {μ : ma_M} (Hc : rl_c μ) (Hm : rl_m μ) (Hp : cu_q μ) {n L : Int} (n0 : 0 ≤ n) (n1 : n < μ 3 0 10) (h : cu_len μ n L) : 0 ≤ L ∧ L ≤ 12 := by
  obtain ⟨a, b, c, d, ⟨h1, ⟨x, hx, ex⟩, ⟨y, hy, ey⟩⟩, ⟨k1, ⟨z, hz, ez⟩, ⟨w, hw, ew⟩⟩, e⟩ := h
  have r : ∀ x, cu_S μ n x → 0 ≤ x ∧ x < 49 := fun x hx => by
    rcases hx with hx | hx
    · rw [hx]; exact cu_src_rng Hc Hm Hp n0 n1
    · exact cu_pin_rng Hc Hp hx
  have := r x hx
  have := r y hy
  have := r z hz
  have := r w hw
  have := h1 x hx
  have := k1 z hz
  unfold cu_col at *
  unfold cu_rw at *
  omega
/-- the cost -/
def cu_cost (μ : ma_M) (v : Int) : Prop := ∃ f : Int → Int, (∀ n : Int, 0 ≤ n → n < μ 3 0 10 → cu_len μ n (f n)) ∧ v = ma_sum f (μ 3 0 10).toNat
theorem cu_cost_uniq {μ : ma_M} {v w : Int} (N0 : 0 ≤ μ 3 0 10) (h : cu_cost μ v) (h' : cu_cost μ w) : v = w := by
  obtain ⟨f, h1, e1⟩ := h
  obtain ⟨g, h2, e2⟩ := h'
  rw [e1, e2]
  exact ma_sum_cong _ (fun i i0 i1 => cu_len_uniq (h1 i i0 (by omega)) (h2 i i0 (by omega)))
theorem cu_J_cost {μ m : ma_M} (h : cu_J (cu_S μ) m (μ 3 0 10)) : cu_cost μ (ma_sum (fun n => m 36 0 n - m 35 0 n + m 38 0 n - m 37 0 n) (μ 3 0 10).toNat) :=
  ⟨fun n => m 36 0 n - m 35 0 n + m 38 0 n - m 37 0 n, fun n n0 n1 => ⟨_, _, _, _, (h n n0 n1).2.1, (h n n0 n1).2.2, rfl⟩, rfl⟩
theorem cu_cost_rng {μ : ma_M} (Hc : rl_c μ) (Hm : rl_m μ) (Hp : cu_q μ) {v : Int} (h : cu_cost μ v) : 0 ≤ v ∧ v ≤ 576 := by
  obtain ⟨f, h1, e⟩ := h
  have N1 := Hc.2.1
  have := ma_sum_rng (f := f) (b := 12) (μ 3 0 10).toNat (fun n n0 n1 => cu_len_rng Hc Hm Hp n0 (by omega) (h1 n n0 (by omega)))
  omega

