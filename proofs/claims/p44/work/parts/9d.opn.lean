/-! route: the list of open crossings -/
def rt_O (N : Nat) (O : Int → Int) (K : Int) (τ δ : Int → Int) : Prop := K = ma_sum (fun y => if δ y = 0 ∧ 0 ≤ τ y then 1 else 0) N ∧ (∀ i : Int, 0 ≤ i → i < K → 0 ≤ O i ∧ O i < N ∧ δ (O i) = 0 ∧ 0 ≤ τ (O i)) ∧ (∀ y : Int, 0 ≤ y → y < N → δ y = 0 → 0 ≤ τ y → ∃ i : Int, 0 ≤ i ∧ i < K ∧ O i = y) ∧ ∀ i j : Int, 0 ≤ i → i < K → 0 ≤ j → j < K → O i = O j → i = j
theorem rt_O_K {N : Nat} {O : Int → Int} {K : Int} {τ δ : Int → Int} (h : rt_O N O K τ δ) : 0 ≤ K ∧ K ≤ N := by
  have := ma_sum_rng (f := fun y => if δ y = 0 ∧ 0 ≤ τ y then 1 else 0) (b := 1) N (fun i _ _ => by
    show 0 ≤ (if δ i = 0 ∧ 0 ≤ τ i then (1 : Int) else 0) ∧ (if δ i = 0 ∧ 0 ≤ τ i then (1 : Int) else 0) ≤ 1
    split <;> omega)
  have := h.1
  omega
theorem rt_O_cg {N : Nat} {O : Int → Int} {K : Int} {τ δ τ' : Int → Int} (h : rt_O N O K τ δ) (e : ∀ y : Int, 0 ≤ y → y < N → τ y = τ' y) : rt_O N O K τ' δ := by
  refine ⟨?_, fun i a b => ?_, fun y a b c f => h.2.2.1 y a b c (by rw [e y a b]; exact f), h.2.2.2⟩
  · rw [h.1]
    exact ma_sum_cong N (fun i a b => by
      show (if δ i = 0 ∧ 0 ≤ τ i then (1 : Int) else 0) = if δ i = 0 ∧ 0 ≤ τ' i then 1 else 0
      rw [e i a b])
  · have := h.2.1 i a b
    rw [← e _ this.1 this.2.1]; exact this
theorem rt_O_add {N : Nat} {O : Int → Int} {K y v : Int} {τ δ : Int → Int} (h : rt_O N O K τ δ) (y0 : 0 ≤ y) (y1 : y < N) (dy : δ y = 0) (ty : τ y < 0) (hv : 0 ≤ v) : K + 1 ≤ N ∧ rt_O N (bd_up O K y) (K + 1) (bd_up τ y v) δ := by
  have k := rt_O_K h
  have H : rt_O N (bd_up O K y) (K + 1) (bd_up τ y v) δ := by
    refine ⟨?_, fun i a b => ?_, fun z a b c f => ?_, fun i j a b c f g => ?_⟩
    · have s := rt_sum_up (f := fun y => if δ y = 0 ∧ 0 ≤ τ y then 1 else 0) (x := y) (v := 1) N y0 y1
      rw [ma_sum_cong (g := fun z => if δ z = 0 ∧ 0 ≤ bd_up τ y v z then 1 else 0) N (fun i _ _ => by
        unfold bd_up
        by_cases q : i = y
        · rw [if_pos q, q, if_pos rfl, if_pos ⟨dy, hv⟩]
        · rw [if_neg q, if_neg q])] at s
      rw [s]
      have : (fun y => if δ y = 0 ∧ 0 ≤ τ y then (1 : Int) else 0) y = 0 := by show (if δ y = 0 ∧ 0 ≤ τ y then (1 : Int) else 0) = 0; rw [if_neg (by omega)]
      have := h.1
      omega
    · unfold bd_up
      by_cases q : i = K
      · rw [if_pos q, if_pos rfl]; exact ⟨y0, y1, dy, hv⟩
      · rw [if_neg q]
        have w := h.2.1 i a (by omega)
        refine ⟨w.1, w.2.1, w.2.2.1, ?_⟩
        by_cases g : O i = y
        · rw [if_pos g]; exact hv
        · rw [if_neg g]; exact w.2.2.2
    · by_cases q : z = y
      · exact ⟨K, k.1, by omega, by unfold bd_up; rw [if_pos rfl, q]⟩
      · unfold bd_up at f
        rw [if_neg q] at f
        obtain ⟨i, i0, i1, e⟩ := h.2.2.1 z a b c f
        exact ⟨i, i0, by omega, by unfold bd_up; rw [if_neg (by omega)]; exact e⟩
    · have no : ∀ i : Int, 0 ≤ i → i < K → ¬ O i = y := fun i a b e => by have := (h.2.1 i a b).2.2.2; rw [e] at this; omega
      unfold bd_up at g
      by_cases p : i = K
      · by_cases q : j = K
        · omega
        · rw [if_pos p, if_neg q] at g; exact absurd g.symm (no j c (by omega))
      · by_cases q : j = K
        · rw [if_neg p, if_pos q] at g; exact absurd g (no i a (by omega))
        · rw [if_neg p, if_neg q] at g; exact h.2.2.2 i j a (by omega) c (by omega) g
  exact ⟨(rt_O_K H).2, H⟩
theorem rt_O_keep {N : Nat} {O : Int → Int} {K y v : Int} {τ δ : Int → Int} (h : rt_O N O K τ δ) (ty : 0 ≤ τ y) (hv : 0 ≤ v) : rt_O N O K (bd_up τ y v) δ := by
  have same : ∀ z : Int, 0 ≤ bd_up τ y v z ↔ 0 ≤ τ z := fun z => by
    unfold bd_up
    by_cases q : z = y
    · rw [if_pos q, q]; exact ⟨fun _ => ty, fun _ => hv⟩
    · rw [if_neg q]
  refine ⟨?_, fun i a b => ?_, fun z a b c f => h.2.2.1 z a b c ((same z).1 f), h.2.2.2⟩
  · rw [h.1]
    exact ma_sum_cong N (fun i _ _ => by
      show (if δ i = 0 ∧ 0 ≤ τ i then (1 : Int) else 0) = if δ i = 0 ∧ 0 ≤ bd_up τ y v i then 1 else 0
      by_cases q : δ i = 0 ∧ 0 ≤ τ i
      · rw [if_pos q, if_pos ⟨q.1, (same i).2 q.2⟩]
      · rw [if_neg q, if_neg (fun z => q ⟨z.1, (same i).1 z.2⟩)])
  · have w := h.2.1 i a b
    exact ⟨w.1, w.2.1, w.2.2.1, (same _).2 w.2.2.2⟩
theorem rt_O_take {N : Nat} {O : Int → Int} {K i : Int} {τ δ : Int → Int} (h : rt_O N O K τ δ) (i0 : 0 ≤ i) (i1 : i < K) : rt_O N (bd_up O i (O (K - 1))) (K - 1) τ (bd_up δ (O i) 1) := by
  have w := h.2.1 i i0 i1
  refine ⟨?_, fun j a b => ?_, fun z a b c f => ?_, fun j j' a b c f g => ?_⟩
  · have s := rt_sum_up (f := fun y => if δ y = 0 ∧ 0 ≤ τ y then 1 else 0) (x := O i) (v := 0) N w.1 w.2.1
    rw [ma_sum_cong (g := fun z => if bd_up δ (O i) 1 z = 0 ∧ 0 ≤ τ z then 1 else 0) N (fun j _ _ => by
      unfold bd_up
      by_cases q : j = O i
      · rw [if_pos q, if_pos q, if_neg (by omega)]
      · rw [if_neg q, if_neg q])] at s
    rw [s]
    have : (fun y => if δ y = 0 ∧ 0 ≤ τ y then (1 : Int) else 0) (O i) = 1 := by show (if δ (O i) = 0 ∧ 0 ≤ τ (O i) then (1 : Int) else 0) = 1; rw [if_pos w.2.2]
    have := h.1
    omega
  · have key : ∀ q : Int, 0 ≤ q → q < K → ¬ q = i → 0 ≤ O q ∧ O q < N ∧ bd_up δ (O i) 1 (O q) = 0 ∧ 0 ≤ τ (O q) := fun q q0 q1 qi => by
      have v := h.2.1 q q0 q1
      refine ⟨v.1, v.2.1, ?_, v.2.2.2⟩
      unfold bd_up; rw [if_neg (fun e => qi (h.2.2.2 q i q0 q1 i0 i1 e))]; exact v.2.2.1
    by_cases q : j = i
    · have e : bd_up O i (O (K - 1)) j = O (K - 1) := by unfold bd_up; rw [if_pos q]
      rw [e]; exact key (K - 1) (by omega) (by omega) (by omega)
    · have e : bd_up O i (O (K - 1)) j = O j := by unfold bd_up; rw [if_neg q]
      rw [e]; exact key j a (by omega) q
  · by_cases q : z = O i
    · unfold bd_up at c; rw [if_pos q] at c; omega
    · unfold bd_up at c; rw [if_neg q] at c
      obtain ⟨j, j0, j1, e⟩ := h.2.2.1 z a b c f
      have ji : ¬ j = i := fun g => q (by rw [← e, g])
      by_cases l : j = K - 1
      · exact ⟨i, i0, by omega, by unfold bd_up; rw [if_pos rfl, ← l]; exact e⟩
      · exact ⟨j, j0, by omega, by unfold bd_up; rw [if_neg ji]; exact e⟩
  · unfold bd_up at g
    by_cases p : j = i
    · by_cases q : j' = i
      · omega
      · rw [if_pos p, if_neg q] at g
        have := h.2.2.2 (K - 1) j' (by omega) (by omega) c (by omega) g
        omega
    · by_cases q : j' = i
      · rw [if_neg p, if_pos q] at g
        have := h.2.2.2 j (K - 1) a (by omega) (by omega) (by omega) g
        omega
      · rw [if_neg p, if_neg q] at g; exact h.2.2.2 j j' a (by omega) c (by omega) g
theorem rt_O_ext {N : Nat} {O : Int → Int} {K : Int} {τ δ : Int → Int} (h : rt_O N O K τ δ) (dn : δ N = 0) : (0 ≤ τ N → K ≤ N ∧ rt_O (N + 1) (bd_up O K N) (K + 1) τ δ) ∧ (τ N < 0 → rt_O (N + 1) O K τ δ) := by
  have k := rt_O_K h
  have un : ma_sum (fun y => if δ y = 0 ∧ 0 ≤ τ y then 1 else 0) (N + 1) = ma_sum (fun y => if δ y = 0 ∧ 0 ≤ τ y then 1 else 0) N + (if δ N = 0 ∧ 0 ≤ τ N then 1 else 0) := rfl
  have hK := h.1
  constructor
  · intro t
    refine ⟨k.2, ?_, fun i a b => ?_, fun z a b c f => ?_, fun i j a b c f g => ?_⟩
    · rw [un, if_pos ⟨dn, t⟩]; omega
    · unfold bd_up
      by_cases q : i = K
      · rw [if_pos q]; exact ⟨by omega, by omega, dn, t⟩
      · rw [if_neg q]; have w := h.2.1 i a (by omega); exact ⟨w.1, by omega, w.2.2⟩
    · by_cases q : z = N
      · exact ⟨K, k.1, by omega, by unfold bd_up; rw [if_pos rfl, q]⟩
      · obtain ⟨i, i0, i1, e⟩ := h.2.2.1 z a (by omega) c f
        exact ⟨i, i0, by omega, by unfold bd_up; rw [if_neg (by omega)]; exact e⟩
    · have no : ∀ i : Int, 0 ≤ i → i < K → ¬ O i = N := fun i a b e => by have := (h.2.1 i a b).2.1; omega
      unfold bd_up at g
      by_cases p : i = K
      · by_cases q : j = K
        · omega
        · rw [if_pos p, if_neg q] at g; exact absurd g.symm (no j c (by omega))
      · by_cases q : j = K
        · rw [if_neg p, if_pos q] at g; exact absurd g (no i a (by omega))
        · rw [if_neg p, if_neg q] at g; exact h.2.2.2 i j a (by omega) c (by omega) g
  · intro t
    refine ⟨?_, fun i a b => ?_, fun z a b c f => ?_, h.2.2.2⟩
    · rw [un, if_neg (by omega)]; omega
    · have w := h.2.1 i a b; exact ⟨w.1, by omega, w.2.2⟩
    · by_cases q : z = N
      · rw [q] at f; omega
      · exact h.2.2.1 z a (by omega) c f
/-- how the offers go on, edge by edge -/
theorem rt_T_skip {τ ω δ t : Int → Int} {x B B' : Int} (BB : B ≤ B') (h : ∀ z : Int, 0 ≤ z → z < 49 → ¬ (B ≤ rt_nb x z ∧ rt_nb x z < B')) : ∀ z : Int, 0 ≤ z → z < 49 → rt_T τ δ t x B z = rt_T τ δ t x B' z ∧ rt_W τ δ ω t x B z = rt_W τ δ ω t x B' z := fun z z0 z1 => by
  have := h z z0 z1
  unfold rt_T rt_W
  by_cases c : 0 ≤ rt_nb x z ∧ rt_nb x z < B ∧ δ z = 0 ∧ (τ z < 0 ∨ τ x + t (rt_nb x z) < τ z)
  · rw [if_pos c, if_pos c, if_pos ⟨c.1, by omega, c.2.2⟩, if_pos ⟨c.1, by omega, c.2.2⟩]; exact ⟨rfl, rfl⟩
  · have c' : ¬ (0 ≤ rt_nb x z ∧ rt_nb x z < B' ∧ δ z = 0 ∧ (τ z < 0 ∨ τ x + t (rt_nb x z) < τ z)) := fun q => c ⟨q.1, by omega, q.2.2⟩
    rw [if_neg c, if_neg c, if_neg c', if_neg c']; exact ⟨rfl, rfl⟩
theorem rt_T_at {τ δ t : Int → Int} {x y : Int} : rt_T τ δ t x (rt_nb x y) y = τ y := by
  unfold rt_T; rw [if_neg (by omega)]
theorem rt_T_0 {τ ω δ t : Int → Int} {x : Int} : rt_T τ δ t x 0 = τ ∧ rt_W τ δ ω t x 0 = ω := by
  constructor
  · funext z; unfold rt_T; rw [if_neg (by omega)]
  · funext z; unfold rt_W; rw [if_neg (by omega)]
theorem rt_nb_inj {x y z : Int} (x0 : 0 ≤ x) (x1 : x < 49) (y0 : 0 ≤ y) (y1 : y < 49) (z0 : 0 ≤ z) (z1 : z < 49) (h : 0 ≤ rt_nb x y) (e : rt_nb x z = rt_nb x y) : z = y := by
  have a := (rt_nb_is h x0 x1 y0 y1 rfl).2
  have b := (rt_nb_is h x0 x1 z0 z1 e).2
  omega
theorem rt_T_hit {τ ω δ t : Int → Int} {x y : Int} (x0 : 0 ≤ x) (x1 : x < 49) (y0 : 0 ≤ y) (y1 : y < 49) (h : 0 ≤ rt_nb x y) (c : δ y = 0 ∧ (τ y < 0 ∨ τ x + t (rt_nb x y) < τ y)) : ∀ z : Int, 0 ≤ z → z < 49 → bd_up (rt_T τ δ t x (rt_nb x y)) y (τ x + t (rt_nb x y)) z = rt_T τ δ t x (rt_nb x y + 1) z ∧ bd_up (rt_W τ δ ω t x (rt_nb x y)) y (rt_nb x y) z = rt_W τ δ ω t x (rt_nb x y + 1) z := fun z z0 z1 => by
  by_cases q : z = y
  · unfold bd_up
    rw [if_pos q, if_pos q, q]
    unfold rt_T rt_W
    rw [if_pos ⟨h, by omega, c⟩, if_pos ⟨h, by omega, c⟩]; exact ⟨rfl, rfl⟩
  · have ne : ¬ rt_nb x z = rt_nb x y := fun e => q (rt_nb_inj x0 x1 y0 y1 z0 z1 h e)
    unfold bd_up
    rw [if_neg q, if_neg q]
    unfold rt_T rt_W
    by_cases g : 0 ≤ rt_nb x z ∧ rt_nb x z < rt_nb x y ∧ δ z = 0 ∧ (τ z < 0 ∨ τ x + t (rt_nb x z) < τ z)
    · rw [if_pos g, if_pos g, if_pos ⟨g.1, by omega, g.2.2⟩, if_pos ⟨g.1, by omega, g.2.2⟩]; exact ⟨rfl, rfl⟩
    · have g' : ¬ (0 ≤ rt_nb x z ∧ rt_nb x z < rt_nb x y + 1 ∧ δ z = 0 ∧ (τ z < 0 ∨ τ x + t (rt_nb x z) < τ z)) := fun q => g ⟨q.1, by omega, q.2.2⟩
      rw [if_neg g, if_neg g, if_neg g', if_neg g']; exact ⟨rfl, rfl⟩
theorem rt_T_mis {τ ω δ t : Int → Int} {x y : Int} (x0 : 0 ≤ x) (x1 : x < 49) (y0 : 0 ≤ y) (y1 : y < 49) (h : 0 ≤ rt_nb x y) (c : ¬ (δ y = 0 ∧ (τ y < 0 ∨ τ x + t (rt_nb x y) < τ y))) : ∀ z : Int, 0 ≤ z → z < 49 → rt_T τ δ t x (rt_nb x y) z = rt_T τ δ t x (rt_nb x y + 1) z ∧ rt_W τ δ ω t x (rt_nb x y) z = rt_W τ δ ω t x (rt_nb x y + 1) z := fun z z0 z1 => by
  unfold rt_T rt_W
  by_cases q : z = y
  · rw [q, if_neg (by omega), if_neg (by omega), if_neg (fun w => c w.2.2), if_neg (fun w => c w.2.2)]; exact ⟨rfl, rfl⟩
  · have ne : ¬ rt_nb x z = rt_nb x y := fun e => q (rt_nb_inj x0 x1 y0 y1 z0 z1 h e)
    by_cases g : 0 ≤ rt_nb x z ∧ rt_nb x z < rt_nb x y ∧ δ z = 0 ∧ (τ z < 0 ∨ τ x + t (rt_nb x z) < τ z)
    · rw [if_pos g, if_pos g, if_pos ⟨g.1, by omega, g.2.2⟩, if_pos ⟨g.1, by omega, g.2.2⟩]; exact ⟨rfl, rfl⟩
    · have g' : ¬ (0 ≤ rt_nb x z ∧ rt_nb x z < rt_nb x y + 1 ∧ δ z = 0 ∧ (τ z < 0 ∨ τ x + t (rt_nb x z) < τ z)) := fun q => g ⟨q.1, by omega, q.2.2⟩
      rw [if_neg g, if_neg g, if_neg g', if_neg g']; exact ⟨rfl, rfl⟩

