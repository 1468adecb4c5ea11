/-! the lengths of nets: the class -/
theorem td_nn {a b : Int} (h : 0 ≤ a) : Int.tdiv a b = a / b := Int.tdiv_eq_ediv_of_nonneg h
theorem tm_nn {a b : Int} (h : 0 ≤ a) : Int.tmod a b = a % b := Int.tmod_eq_emod_of_nonneg h
theorem rl_x_t {c : Int} (h : 0 ≤ c) : 7 * Int.tdiv c 6 + Int.tmod c 6 = rl_x c := by rw [td_nn h, tm_nn h]; rfl
theorem rl_x_rng {c : Int} (h0 : 0 ≤ c) (h1 : c < 36) : 0 ≤ rl_x c ∧ rl_x c < 41 := by unfold rl_x; omega
/-- lo and hi are the least and the greatest that f makes of S -/
def cu_mm (S : Int → Prop) (f : Int → Int) (lo hi : Int) : Prop := (∀ x, S x → lo ≤ f x ∧ f x ≤ hi) ∧ (∃ x, S x ∧ f x = lo) ∧ ∃ x, S x ∧ f x = hi
theorem cu_mm_uniq {S T : Int → Prop} {f : Int → Int} {a b c d : Int} (h : cu_mm S f a b) (h' : cu_mm T f c d) (e : ∀ x, S x ↔ T x) : a = c ∧ b = d := by
  obtain ⟨h1, ⟨x, hx, ex⟩, ⟨y, hy, ey⟩⟩ := h
  obtain ⟨k1, ⟨z, hz, ez⟩, ⟨w, hw, ew⟩⟩ := h'
  have := h1 z ((e z).2 hz)
  have := h1 w ((e w).2 hw)
  have := k1 x ((e x).1 hx)
  have := k1 y ((e y).1 hy)
  omega
theorem cu_mm_congr {S T : Int → Prop} {f : Int → Int} {a b : Int} (h : cu_mm S f a b) (e : ∀ x, S x ↔ T x) : cu_mm T f a b :=
  ⟨fun x hx => h.1 x ((e x).2 hx), by obtain ⟨x, hx, ex⟩ := h.2.1; exact ⟨x, (e x).1 hx, ex⟩, by obtain ⟨x, hx, ex⟩ := h.2.2; exact ⟨x, (e x).1 hx, ex⟩⟩
theorem cu_mm_one {S : Int → Prop} {f : Int → Int} {y : Int} (e : ∀ x, S x ↔ x = y) : cu_mm S f (f y) (f y) :=
  ⟨fun x hx => by rw [(e x).1 hx]; omega, ⟨y, (e y).2 rfl, rfl⟩, ⟨y, (e y).2 rfl, rfl⟩⟩
theorem cu_mm_add {S T : Int → Prop} {f : Int → Int} {a b y : Int} (h : cu_mm S f a b) (e : ∀ x, T x ↔ S x ∨ x = y) : cu_mm T f (if f y < a then f y else a) (if b < f y then f y else b) := by
  obtain ⟨h1, ⟨x, hx, ex⟩, ⟨z, hz, ez⟩⟩ := h
  refine ⟨fun w hw => ?_, ?_, ?_⟩
  · rcases (e w).1 hw with hw | hw
    · have := h1 w hw; split <;> split <;> omega
    · have := h1 x hx; have := h1 z hz; rw [hw]; split <;> split <;> omega
  · split
    · exact ⟨y, (e y).2 (.inr rfl), rfl⟩
    · exact ⟨x, (e x).2 (.inl hx), ex⟩
  · split
    · exact ⟨y, (e y).2 (.inr rfl), rfl⟩
    · exact ⟨z, (e z).2 (.inl hz), ez⟩
def cu_col (x : Int) : Int := x / 7
def cu_rw (x : Int) : Int := x % 7
/-- the class's bounds of the nodes' nets -/
def cu_J (P : Int → Int → Prop) (m : ma_M) (N : Int) : Prop := ∀ n : Int, 0 ≤ n → n < N → (∀ x, P n x → 0 ≤ x ∧ x < 49) ∧ cu_mm (P n) cu_col (m 35 0 n) (m 36 0 n) ∧ cu_mm (P n) cu_rw (m 37 0 n) (m 38 0 n)
theorem cu_up4 (m : ma_M) (y a b c d : Int) : (∀ k : Nat, k ≠ 35 → k ≠ 36 → k ≠ 37 → k ≠ 38 → (ma_up (ma_up (ma_up (ma_up m 35 0 y a) 36 0 y b) 37 0 y c) 38 0 y d) k = m k) ∧ ∀ n : Int, (ma_up (ma_up (ma_up (ma_up m 35 0 y a) 36 0 y b) 37 0 y c) 38 0 y d) 35 0 n = (if n = y then a else m 35 0 n) ∧ (ma_up (ma_up (ma_up (ma_up m 35 0 y a) 36 0 y b) 37 0 y c) 38 0 y d) 36 0 n = (if n = y then b else m 36 0 n) ∧ (ma_up (ma_up (ma_up (ma_up m 35 0 y a) 36 0 y b) 37 0 y c) 38 0 y d) 37 0 n = (if n = y then c else m 37 0 n) ∧ (ma_up (ma_up (ma_up (ma_up m 35 0 y a) 36 0 y b) 37 0 y c) 38 0 y d) 38 0 n = (if n = y then d else m 38 0 n) := by
  refine ⟨fun k k1 k2 k3 k4 => by rw [ma_up_ck k4, ma_up_ck k3, ma_up_ck k2, ma_up_ck k1], fun n => ⟨?_, ?_, ?_, ?_⟩⟩ <;> simp [ma_up_rd]
theorem cu_J_add {P Q : Int → Int → Prop} {m : ma_M} {N y x : Int} (h : cu_J P m N) (hx : 0 ≤ x ∧ x < 49) (hy : 0 ≤ y ∧ y < N) (e : ∀ n z, Q n z ↔ P n z ∨ (n = y ∧ z = x)) :
    cu_J Q (ma_up (ma_up (ma_up (ma_up m 35 0 y (if Int.tdiv x 7 < m 35 0 y then Int.tdiv x 7 else m 35 0 y)) 36 0 y (if m 36 0 y < Int.tdiv x 7 then Int.tdiv x 7 else m 36 0 y)) 37 0 y (if Int.tmod x 7 < m 37 0 y then Int.tmod x 7 else m 37 0 y)) 38 0 y (if m 38 0 y < Int.tmod x 7 then Int.tmod x 7 else m 38 0 y)) N := by
  intro n n0 n1
  obtain ⟨_, u⟩ := cu_up4 m y (if Int.tdiv x 7 < m 35 0 y then Int.tdiv x 7 else m 35 0 y) (if m 36 0 y < Int.tdiv x 7 then Int.tdiv x 7 else m 36 0 y) (if Int.tmod x 7 < m 37 0 y then Int.tmod x 7 else m 37 0 y) (if m 38 0 y < Int.tmod x 7 then Int.tmod x 7 else m 38 0 y)
  obtain ⟨u1, u2, u3, u4⟩ := u n
  rw [u1, u2, u3, u4, td_nn hx.1, tm_nn hx.1]
  obtain ⟨h0, h1, h2⟩ := h n n0 n1
  by_cases q : n = y
  · rw [if_pos q, if_pos q, if_pos q, if_pos q]
    subst q
    refine ⟨fun z hz => ?_, cu_mm_add h1 (fun z => (e n z).trans ⟨fun w => w.imp id (fun v => v.2), fun w => w.imp id (fun v => ⟨rfl, v⟩)⟩), cu_mm_add h2 (fun z => (e n z).trans ⟨fun w => w.imp id (fun v => v.2), fun w => w.imp id (fun v => ⟨rfl, v⟩)⟩)⟩
    rcases (e n z).1 hz with w | w
    · exact h0 z w
    · rw [w.2]; exact hx
  · rw [if_neg q, if_neg q, if_neg q, if_neg q]
    have e' : ∀ z, P n z ↔ Q n z := fun z => ((e n z).trans ⟨fun w => by rcases w with w | w; exact w; exact absurd w.1 q, .inl⟩).symm
    exact ⟨fun z hz => h0 z ((e' z).2 hz), cu_mm_congr h1 e', cu_mm_congr h2 e'⟩
theorem cu_J_congr {P Q : Int → Int → Prop} {m m' : ma_M} {N : Int} (h : cu_J P m N) (e : ∀ n z, 0 ≤ n → n < N → (P n z ↔ Q n z)) (em : m' 35 = m 35 ∧ m' 36 = m 36 ∧ m' 37 = m 37 ∧ m' 38 = m 38) : cu_J Q m' N := by
  intro n n0 n1
  obtain ⟨h0, h1, h2⟩ := h n n0 n1
  rw [em.1, em.2.1, em.2.2.1, em.2.2.2]
  exact ⟨fun z hz => h0 z ((e n z n0 n1).2 hz), cu_mm_congr h1 (fun z => e n z n0 n1), cu_mm_congr h2 (fun z => e n z n0 n1)⟩
/-- the class's source of a net -/
def cu_src (μ : ma_M) (n : Int) : Int := if μ 4 0 n = 105 then μ 10 0 n else if 0 ≤ μ 28 0 n then rl_x (μ 32 0 (μ 28 0 n)) else 0
def cu_S (μ : ma_M) (n x : Int) : Prop := x = cu_src μ n ∨ rl_pin μ n x
/-- every block has a cell -/
def cu_q (μ : ma_M) : Prop := (∀ b : Int, 0 ≤ b → b < μ 21 0 7 → True ∧ 0 ≤ μ 32 0 b ∧ μ 32 0 b < 36 ∧ True) ∧ True
theorem cu_q_of {μ : ma_M} (H : rl_p μ) : cu_q μ := ⟨fun b b0 b1 => ⟨trivial, (H.1 b b0 b1).2.1, (H.1 b b0 b1).2.2.1, trivial⟩, trivial⟩
theorem cu_src_rng {μ : ma_M} (Hc : rl_c μ) (Hm : rl_m μ) (Hp : cu_q μ) {n : Int} (n0 : 0 ≤ n) (n1 : n < μ 3 0 10) : 0 ≤ cu_src μ n ∧ cu_src μ n < 49 := by
  obtain ⟨_, _, I0, I1, _, _, _, _, _, _, _, _, hn, _, _, _, _, _⟩ := Hc
  obtain ⟨_, _, _, hm, _⟩ := Hm
  unfold cu_src
  by_cases a : μ 4 0 n = 105
  · rw [if_pos a]; have := (hn n n0 n1).2.2.1 a; omega
  · rw [if_neg a]
    by_cases b : 0 ≤ μ 28 0 n
    · rw [if_pos b]
      have c := (hm n n0 n1).2.2.2.2.2.2.1
      have := Hp.1 (μ 28 0 n) b c
      have := rl_x_rng this.2.1 this.2.2.1
      omega
    · rw [if_neg b]; omega
theorem sp_findLengths {LS d : Nat} {Post : ma_R → ma_M → Prop} {μ : ma_M} (Hc : rl_c μ) (Hm : rl_m μ) (Hp : cu_q μ)
    (h : ∀ m : ma_M, (∀ c : Nat, c ≠ 35 → c ≠ 36 → c ≠ 37 → c ≠ 38 → m c = μ c) → cu_J (cu_S μ) m (μ 3 0 10) → Post (.inl (some (ma_I (ma_sum (fun n => m 36 0 n - m 35 0 n + m 38 0 n - m 37 0 n) (μ 3 0 10).toNat)))) m) :
    ma_Ox LS (d + 3) mi_Places_findLengths [ma_Rf 31 0] μ Post := by
  have srng := fun n n0 n1 => cu_src_rng Hc Hm Hp (n := n) n0 n1
  obtain ⟨N0, N1, I0, I1, R0, R1, O0, O1, _, _, _, _, hn, _, _, _, _, hoo⟩ := Hc
  obtain ⟨B0, B1, _, hm, hb, _⟩ := Hm
  refine gi_Places_findLengths (fun R hR => s_Places_findLengths_0 hR ?_)
  have rd : ∀ m : ma_M, (∀ c : Nat, c ≠ 35 → c ≠ 36 → c ≠ 37 → c ≠ 38 → m c = μ c) → m 3 = μ 3 ∧ m 4 = μ 4 ∧ m 10 = μ 10 ∧ m 13 = μ 13 ∧ m 21 = μ 21 ∧ m 25 = μ 25 ∧ m 27 = μ 27 ∧ m 28 = μ 28 ∧ m 32 = μ 32 := fun m hm => ⟨hm 3 (by decide) (by decide) (by decide) (by decide), hm 4 (by decide) (by decide) (by decide) (by decide), hm 10 (by decide) (by decide) (by decide) (by decide), hm 13 (by decide) (by decide) (by decide) (by decide), hm 21 (by decide) (by decide) (by decide) (by decide), hm 25 (by decide) (by decide) (by decide) (by decide), hm 27 (by decide) (by decide) (by decide) (by decide), hm 28 (by decide) (by decide) (by decide) (by decide), hm 32 (by decide) (by decide) (by decide) (by decide)⟩
  -- the sum
  have l173 : ∀ m : ma_M, (∀ c : Nat, c ≠ 35 → c ≠ 36 → c ≠ 37 → c ≠ 38 → m c = μ c) → cu_J (cu_S μ) m (μ 3 0 10) → R 173 [ma_Rf 31 0, ma_I 0, ma_I 0] [] 0 m := by
    intro m hf hJ
    obtain ⟨e3, _⟩ := rd m hf
    have bd : ∀ n : Int, 0 ≤ n → n < μ 3 0 10 → (0 ≤ m 35 0 n ∧ m 35 0 n ≤ m 36 0 n ∧ m 36 0 n ≤ 6) ∧ (0 ≤ m 37 0 n ∧ m 37 0 n ≤ m 38 0 n ∧ m 38 0 n ≤ 6) := by
      intro n n0 n1
      obtain ⟨h0, ⟨h1, ⟨x, hx, ex⟩, ⟨y, hy, ey⟩⟩, ⟨k1, ⟨z, hz, ez⟩, ⟨w, hw, ew⟩⟩⟩ := hJ n n0 n1
      have := h0 x hx
      have := h0 y hy
      have := h0 z hz
      have := h0 w hw
      have := h1 x hx
      have := k1 z hz
      unfold cu_col at *
      unfold cu_rw at *
      omega
    refine ma_cnt (σ := Unit) (N := μ 3 0 10) (P := fun i _ => R 173 [ma_Rf 31 0, ma_I (ma_sum (fun n => m 36 0 n - m 35 0 n + m 38 0 n - m 37 0 n) i.toNat), ma_I i] [] 0 m) (I := fun _ _ => True) ?_ ?_ 0 () (by omega) (by omega) trivial
    · intro i _ i0 i1 _ ih
      have sr := ma_sum_rng (f := fun n => m 36 0 n - m 35 0 n + m 38 0 n - m 37 0 n) (b := 12) i.toNat (fun n a c => by
        have := bd n a (by omega)
        show 0 ≤ m 36 0 n - m 35 0 n + m 38 0 n - m 37 0 n ∧ m 36 0 n - m 35 0 n + m 38 0 n - m 37 0 n ≤ 12
        omega)
      have es : ma_sum (fun n => m 36 0 n - m 35 0 n + m 38 0 n - m 37 0 n) (i + 1).toNat = ma_sum (fun n => m 36 0 n - m 35 0 n + m 38 0 n - m 37 0 n) i.toNat + (m 36 0 i - m 35 0 i + m 38 0 i - m 37 0 i) := by
        rw [show (i + 1).toNat = i.toNat + 1 from by omega]
        show ma_sum (fun n => m 36 0 n - m 35 0 n + m 38 0 n - m 37 0 n) i.toNat + (m 36 0 (i.toNat : Int) - m 35 0 (i.toNat : Int) + m 38 0 (i.toNat : Int) - m 37 0 (i.toNat : Int)) = _
        rw [show ((i.toNat : Nat) : Int) = i from by omega]
      have w := ih () trivial
      rw [es] at w
      have := bd i i0 i1
      exact s_Places_findLengths_173 hR ⟨fun q => by rw [e3] at q; omega, fun _ => ⟨by omega, by omega, by omega, by omega, by omega, by omega, w⟩⟩
    · intro _ _
      exact s_Places_findLengths_173 hR ⟨fun _ => h m hf hJ, fun q => by rw [e3] at q; omega⟩
  -- the outputs
  have l135 : ∀ m : ma_M, (∀ c : Nat, c ≠ 35 → c ≠ 36 → c ≠ 37 → c ≠ 38 → m c = μ c) → cu_J (fun n x => x = cu_src μ n ∨ ∃ b k : Int, 0 ≤ b ∧ b < μ 21 0 7 ∧ 0 ≤ k ∧ k < μ 25 0 b ∧ μ 27 b k = n ∧ x = rl_x (μ 32 0 b)) m (μ 3 0 10) → R 135 [ma_Rf 31 0, ma_I 0, ma_U] [] 0 m := by
    intro m0 hf0 hJ0
    refine ma_cnt (σ := ma_M) (N := μ 3 0 13) (P := fun i m => R 135 [ma_Rf 31 0, ma_I i, ma_U] [] 0 m) (I := fun i m => (∀ c : Nat, c ≠ 35 → c ≠ 36 → c ≠ 37 → c ≠ 38 → m c = μ c) ∧ cu_J (fun n x => (x = cu_src μ n ∨ ∃ b k : Int, 0 ≤ b ∧ b < μ 21 0 7 ∧ 0 ≤ k ∧ k < μ 25 0 b ∧ μ 27 b k = n ∧ x = rl_x (μ 32 0 b)) ∨ ∃ o : Int, 0 ≤ o ∧ o < i ∧ μ 13 0 o = n ∧ x = 42 + o) m (μ 3 0 10)) ?_ ?_ 0 m0 (by omega) (by omega) ⟨hf0, cu_J_congr hJ0 (fun n z _ _ => ⟨fun w => .inl w, fun w => by rcases w with w | ⟨o, a, b, _⟩; exact w; omega⟩) ⟨rfl, rfl, rfl, rfl⟩⟩
    · intro i m i0 i1 ⟨hf, hJ⟩ ih
      obtain ⟨e3, e4, e10, e13, e21, e25, e27, e28, e32⟩ := rd m hf
      have ho := hoo i i0 i1
      refine s_Places_findLengths_135 hR ⟨fun q => by rw [e3] at q; omega, fun _ => ⟨by omega, by omega, by rw [td_nn (by omega)]; omega, by rw [e13]; omega, by omega, ?_⟩⟩
      rw [e13]
      refine ih _ ⟨fun c c1 c2 c3 c4 => by rw [(cu_up4 m _ _ _ _ _).1 c c1 c2 c3 c4]; exact hf c c1 c2 c3 c4, cu_J_add hJ (by omega) (by omega) (fun n z => ⟨fun w => ?_, fun w => ?_⟩)⟩
      · rcases w with w | ⟨o, a, b, c, e⟩
        · exact .inl (.inl w)
        · by_cases q : o = i
          · rw [q] at c e; exact .inr ⟨c.symm, e⟩
          · exact .inl (.inr ⟨o, a, by omega, c, e⟩)
      · rcases w with (w | ⟨o, a, b, c, e⟩) | ⟨c, e⟩
        · exact .inl w
        · exact .inr ⟨o, a, by omega, c, e⟩
        · exact .inr ⟨i, i0, by omega, c.symm, e⟩
    · intro m ⟨hf, hJ⟩
      obtain ⟨e3, _⟩ := rd m hf
      refine s_Places_findLengths_135 hR ⟨fun _ => l173 m hf (cu_J_congr hJ (fun n z _ _ => ?_) ⟨rfl, rfl, rfl, rfl⟩), fun q => by rw [e3] at q; omega⟩
      unfold cu_S rl_pin
      exact or_assoc
  -- the blocks
  have l71 : ∀ m : ma_M, (∀ c : Nat, c ≠ 35 → c ≠ 36 → c ≠ 37 → c ≠ 38 → m c = μ c) → cu_J (fun n x => x = cu_src μ n) m (μ 3 0 10) → R 71 [ma_Rf 31 0, ma_I 0, ma_U] [] 0 m := by
    intro m0 hf0 hJ0
    refine ma_cnt (σ := ma_M) (N := μ 21 0 7) (P := fun i m => R 71 [ma_Rf 31 0, ma_I i, ma_U] [] 0 m) (I := fun i m => (∀ c : Nat, c ≠ 35 → c ≠ 36 → c ≠ 37 → c ≠ 38 → m c = μ c) ∧ cu_J (fun n x => x = cu_src μ n ∨ ∃ b k : Int, 0 ≤ b ∧ b < i ∧ 0 ≤ k ∧ k < μ 25 0 b ∧ μ 27 b k = n ∧ x = rl_x (μ 32 0 b)) m (μ 3 0 10)) ?_ ?_ 0 m0 (by omega) (by omega) ⟨hf0, cu_J_congr hJ0 (fun n z _ _ => ⟨fun w => .inl w, fun w => by rcases w with w | ⟨b, k, a, c, _⟩; exact w; omega⟩) ⟨rfl, rfl, rfl, rfl⟩⟩
    · intro i m i0 i1 ⟨hf, hJ⟩ ih
      obtain ⟨e3, e4, e10, e13, e21, e25, e27, e28, e32⟩ := rd m hf
      have bi := hb i i0 i1
      unfold rl_b1 at bi
      obtain ⟨_, _, _, _, _, _, k0, k4, hin, _⟩ := bi
      have pi := Hp.1 i i0 i1
      have xr := rl_x_rng pi.2.1 pi.2.2.1
      refine s_Places_findLengths_71 hR ⟨fun q => by rw [e21] at q; omega, fun _ => ?_⟩
      refine ma_cnt (σ := ma_M) (N := μ 25 0 i) (P := fun j m => R 84 [ma_Rf 31 0, ma_I i, ma_I j] [] 0 m) (I := fun j m => (∀ c : Nat, c ≠ 35 → c ≠ 36 → c ≠ 37 → c ≠ 38 → m c = μ c) ∧ cu_J (fun n x => (x = cu_src μ n ∨ ∃ b k : Int, 0 ≤ b ∧ b < i ∧ 0 ≤ k ∧ k < μ 25 0 b ∧ μ 27 b k = n ∧ x = rl_x (μ 32 0 b)) ∨ ∃ k : Int, 0 ≤ k ∧ k < j ∧ μ 27 i k = n ∧ x = rl_x (μ 32 0 i)) m (μ 3 0 10)) ?_ ?_ 0 m (by omega) (by omega) ⟨hf, cu_J_congr hJ (fun n z _ _ => ⟨fun w => .inl w, fun w => by rcases w with w | ⟨k, a, c, _⟩; exact w; omega⟩) ⟨rfl, rfl, rfl, rfl⟩⟩
      · intro j m j0 j1 ⟨hf, hJ⟩ ih'
        obtain ⟨e3, e4, e10, e13, e21, e25, e27, e28, e32⟩ := rd m hf
        have hj := hin j j0 j1
        refine s_Places_findLengths_84 hR ⟨by omega, fun q => by rw [e25] at q; omega, fun _ => ?_⟩
        rw [e32, rl_x_t pi.2.1, e27]
        refine ⟨by omega, by rw [td_nn pi.2.1]; omega, by rw [td_nn pi.2.1]; omega, by omega, by rw [td_nn xr.1]; omega, by omega, by omega, ?_⟩
        refine ih' _ ⟨fun c c1 c2 c3 c4 => by rw [(cu_up4 m _ _ _ _ _).1 c c1 c2 c3 c4]; exact hf c c1 c2 c3 c4, cu_J_add hJ (by omega) (by omega) (fun n z => ⟨fun w => ?_, fun w => ?_⟩)⟩
        · rcases w with w | ⟨k, a, b, c, e⟩
          · exact .inl (.inl w)
          · by_cases q : k = j
            · rw [q] at c; exact .inr ⟨c.symm, e⟩
            · exact .inl (.inr ⟨k, a, by omega, c, e⟩)
        · rcases w with (w | ⟨k, a, b, c, e⟩) | ⟨c, e⟩
          · exact .inl w
          · exact .inr ⟨k, a, by omega, c, e⟩
          · exact .inr ⟨j, j0, by omega, c.symm, e⟩
      · intro m ⟨hf, hJ⟩
        obtain ⟨e3, e4, e10, e13, e21, e25, e27, e28, e32⟩ := rd m hf
        refine s_Places_findLengths_84 hR ⟨by omega, fun _ => ⟨by omega, ih m ⟨hf, cu_J_congr hJ (fun n z _ _ => ⟨fun w => ?_, fun w => ?_⟩) ⟨rfl, rfl, rfl, rfl⟩⟩⟩, fun q => by rw [e25] at q; omega⟩
        · rcases w with (w | ⟨b, k, b0, b1, r⟩) | ⟨k, a, b, c, e⟩
          · exact .inl w
          · exact .inr ⟨b, k, b0, by omega, r⟩
          · exact .inr ⟨i, k, i0, by omega, a, b, c, e⟩
        · rcases w with w | ⟨b, k, b0, b1, k0, k1, c, e⟩
          · exact .inl (.inl w)
          · by_cases q : b = i
            · rw [q] at k1 c e; exact .inr ⟨k, k0, k1, c, e⟩
            · exact .inl (.inr ⟨b, k, b0, by omega, k0, k1, c, e⟩)
    · intro m ⟨hf, hJ⟩
      obtain ⟨e3, e4, e10, e13, e21, e25, e27, e28, e32⟩ := rd m hf
      exact s_Places_findLengths_71 hR ⟨fun _ => l135 m hf hJ, fun q => by rw [e21] at q; omega⟩
  -- the sources
  refine ma_cnt (σ := ma_M) (N := μ 3 0 10) (P := fun i m => ∀ u2 : ma_V, R 2 [ma_Rf 31 0, ma_I i, u2] [] 0 m) (I := fun i m => (∀ c : Nat, c ≠ 35 → c ≠ 36 → c ≠ 37 → c ≠ 38 → m c = μ c) ∧ cu_J (fun n x => x = cu_src μ n) m i) ?_ ?_ 0 μ (by omega) (by omega) ⟨fun _ _ _ _ _ => rfl, fun n a b => by omega⟩ _
  · intro i m i0 i1 ⟨hf, hJ⟩ ih u2
    obtain ⟨e3, e4, e10, e13, e21, e25, e27, e28, e32⟩ := rd m hf
    have sr := srng i i0 i1
    have nx : ∀ s : Int, s = cu_src μ i → ∀ v : ma_V, R 2 [ma_Rf 31 0, ma_I (i + 1), v] [] 0 (ma_up (ma_up (ma_up (ma_up m 35 0 i (Int.tdiv s 7)) 36 0 i ((ma_up m 35 0 i (Int.tdiv s 7)) 35 0 i)) 37 0 i (Int.tmod s 7)) 38 0 i ((ma_up (ma_up (ma_up m 35 0 i (Int.tdiv s 7)) 36 0 i ((ma_up m 35 0 i (Int.tdiv s 7)) 35 0 i)) 37 0 i (Int.tmod s 7)) 37 0 i)) := by
      intro s hs v
      subst hs
      have q1 : (ma_up m 35 0 i (Int.tdiv (cu_src μ i) 7)) 35 0 i = Int.tdiv (cu_src μ i) 7 := ma_up_eq
      have q2 : (ma_up (ma_up (ma_up m 35 0 i (Int.tdiv (cu_src μ i) 7)) 36 0 i ((ma_up m 35 0 i (Int.tdiv (cu_src μ i) 7)) 35 0 i)) 37 0 i (Int.tmod (cu_src μ i) 7)) 37 0 i = Int.tmod (cu_src μ i) 7 := ma_up_eq
      rw [q2, q1]
      refine ih _ ⟨fun c c1 c2 c3 c4 => by rw [(cu_up4 m _ _ _ _ _).1 c c1 c2 c3 c4]; exact hf c c1 c2 c3 c4, fun n n0 n1 => ?_⟩ _
      obtain ⟨u1, u2, u3, u4⟩ := (cu_up4 m i (Int.tdiv (cu_src μ i) 7) (Int.tdiv (cu_src μ i) 7) (Int.tmod (cu_src μ i) 7) (Int.tmod (cu_src μ i) 7)).2 n
      rw [u1, u2, u3, u4, td_nn sr.1, tm_nn sr.1]
      by_cases q : n = i
      · rw [if_pos q, if_pos q, if_pos q, if_pos q]
        subst q
        exact ⟨fun x hx => by rw [hx]; exact sr, cu_mm_one (f := cu_col) (fun x => Iff.rfl), cu_mm_one (f := cu_rw) (fun x => Iff.rfl)⟩
      · rw [if_neg q, if_neg q, if_neg q, if_neg q]; exact hJ n n0 (by omega)
    have z0 : 7 * Int.tdiv 0 6 + Int.tmod 0 6 = 0 := by decide
    refine s_Places_findLengths_2 hR ⟨fun q => by rw [e3] at q; omega, fun _ => ⟨by omega, fun q => ?_, fun q => ?_⟩⟩
    · rw [e4] at q
      rw [e28]
      have c := (hm i i0 i1).2.2.2.2.2.2.1
      refine ⟨fun q2 => ?_, fun q2 => ?_⟩
      · have p := Hp.1 (μ 28 0 i) q2 c
        have xr := rl_x_rng p.2.1 p.2.2.1
        rw [e32, rl_x_t p.2.1]
        exact ⟨by omega, by rw [td_nn p.2.1]; omega, by rw [td_nn p.2.1]; omega, by omega, by rw [td_nn xr.1]; omega, by omega, nx _ (by unfold cu_src; rw [if_neg q, if_pos q2]) _⟩
      · rw [z0]
        exact ⟨by decide, by decide, by decide, by omega, nx 0 (by unfold cu_src; rw [if_neg q, if_neg (by omega)]) _⟩
    · rw [e4] at q
      rw [e10]
      have es : μ 10 0 i = cu_src μ i := by unfold cu_src; rw [if_pos q]
      exact ⟨by rw [es, td_nn sr.1]; omega, by omega, nx _ es _⟩
  · intro m ⟨hf, hJ⟩ u2
    obtain ⟨e3, _⟩ := rd m hf
    exact s_Places_findLengths_2 hR ⟨fun _ => l71 m hf hJ, fun q => by rw [e3] at q; omega⟩

