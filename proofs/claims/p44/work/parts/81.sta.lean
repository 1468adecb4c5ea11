/-! start -/
theorem ma_cpy_ck {μ : ma_M} {k1 k2 k : Nat} {r1 r2 sp dp n : Int} (h : k ≠ k2) : ma_cpy μ k1 r1 sp k2 r2 dp n k = μ k := by
  funext r i; unfold ma_cpy; rw [if_neg (fun z => h z.1)]
theorem ma_cpy_rd {μ : ma_M} {r i f : Int} : ma_cpy μ 55 f 0 60 f 0 36 60 r i = if r = f ∧ 0 ≤ i ∧ i < 36 then μ 55 f i else μ 60 r i := by
  unfold ma_cpy
  by_cases e : r = f ∧ 0 ≤ i ∧ i < 36
  · rw [if_pos e, if_pos ⟨rfl, e.1, e.2.1, by omega⟩, show 0 + (i - 0) = i from by omega]
  · rw [if_neg e, if_neg (fun z => e ⟨z.2.1, z.2.2.1, by have := z.2.2.2; omega⟩)]
theorem sp_chipReset {LS d : Nat} {Post : ma_R → ma_M → Prop} {μ : ma_M}
    (h : ∀ m : ma_M, (∀ c : Nat, c ≠ 57 → c ≠ 60 → c ≠ 61 → c ≠ 62 → m c = μ c) → (∀ f i : Int, 0 ≤ f → f < 14 → 0 ≤ i → i < 36 → m 60 f i = μ 55 f i) → (∀ j : Int, 0 ≤ j → j < 6 → m 61 0 j = 0) → (∀ c : Int, 0 ≤ c → c < 36 → m 62 0 c = 0) → m 57 0 3 = 0 → Post (.inl none) m) :
    ma_Ox LS (d + 2) mi_Chip_reset [ma_Rf 57 0, ma_Rf 53 0] μ Post := by
  refine gi_Chip_reset (fun R hR => s_Chip_reset_0 hR ?_)
  refine ma_cnt (σ := ma_M) (N := 14) (P := fun i m => R 2 [ma_Rf 57 0, ma_Rf 53 0, ma_I i] [] 0 m) (I := fun n m => (∀ c : Nat, c ≠ 60 → m c = μ c) ∧ ∀ f i : Int, 0 ≤ f → f < n → 0 ≤ i → i < 36 → m 60 f i = μ 55 f i) ?_ ?_ 0 μ (by omega) (by omega) ⟨fun _ _ => rfl, fun f i a b => by omega⟩
  · intro f m f0 f1 ⟨a1, a2⟩ ih
    refine s_Chip_reset_2 hR ⟨fun q => by omega, fun _ => ⟨by omega, by omega, ih _ ⟨fun c hc => by rw [ma_cpy_ck hc]; exact a1 c hc, fun g i g0 g1 i0 i1 => ?_⟩⟩⟩
    rw [ma_cpy_rd]
    by_cases e : g = f
    · rw [if_pos ⟨e, i0, i1⟩, e, a1 55 (by decide)]
    · rw [if_neg (fun z => e z.1)]; exact a2 g i g0 (by omega) i0 i1
  · intro m ⟨a1, a2⟩
    refine s_Chip_reset_2 hR ⟨fun _ => sp_fillI (len := 6) rfl rfl (by omega) (fun m1 b1 b2 b3 => k_Chip_reset_28 hR (sp_fillI (len := 36) rfl rfl (by omega) (fun m2 c1 c2 c3 => k_Chip_reset_36 hR (h _ (fun c k1 k2 k3 k4 => by rw [ma_up_ck k1, c1 c k4, b1 c k3]; exact a1 c k2) (fun f i f0 f1 i0 i1 => by rw [ma_up_ck (by decide), c1 60 (by decide), b1 60 (by decide)]; exact a2 f i f0 f1 i0 i1) (fun j j0 j1 => by rw [ma_up_ck (by decide), c1 61 (by decide)]; exact b3 j j0 j1) (fun c c0 c1' => by rw [ma_up_ck (by decide)]; exact c3 c c0 c1') ma_up_eq)))), fun q => by omega⟩
theorem sp_runReset {LS d : Nat} {Post : ma_R → ma_M → Prop} {μ : ma_M} (Hc : rl_c μ)
    (h : ∀ m : ma_M, (∀ c : Nat, c ≠ 67 → m c = μ c) → (∀ j : Int, 0 ≤ j → j < μ 3 0 12 → m 67 0 (μ 12 0 j) = μ 8 0 (μ 12 0 j)) → Post (.inl none) m) :
    ma_Ox LS (d + 1) mi_Runner_reset [ma_Rf 66 0] μ Post := by
  have H := Hc
  obtain ⟨N0, N1, I0, I1, R0, R1, O0, O1, n8, n9, n10, n11, hn, _, hr, _, hrj, hoo⟩ := Hc
  refine gi_Runner_reset (fun R hR => s_Runner_reset_0 hR ?_)
  refine ma_cnt (σ := ma_M) (N := μ 3 0 12) (P := fun i m => R 2 [ma_Rf 66 0, ma_I i] [] 0 m) (I := fun n m => (∀ c : Nat, c ≠ 67 → m c = μ c) ∧ ∀ j : Int, 0 ≤ j → j < n → m 67 0 (μ 12 0 j) = μ 8 0 (μ 12 0 j)) ?_ ?_ 0 μ (by omega) (by omega) ⟨fun _ _ => rfl, fun j a b => by omega⟩
  · intro i m i0 i1 ⟨a1, a2⟩ ih
    have t := hr i i0 i1
    have e3 : m 3 = μ 3 := a1 3 (by decide)
    have e12 : m 12 = μ 12 := a1 12 (by decide)
    have e8 : m 8 = μ 8 := a1 8 (by decide)
    refine s_Runner_reset_2 hR ⟨fun q => by rw [e3] at q; omega, fun _ => ?_⟩
    rw [e12, e8]
    refine ⟨by omega, by omega, by omega, ih _ ⟨fun c hc => by rw [ma_up_ck hc]; exact a1 c hc, fun j j0 j1 => ?_⟩⟩
    by_cases e : j = i
    · rw [e, ma_up_eq]
    · rw [ma_up_ne (fun z => e (cu_reg_inj H j0 (by omega) i0 i1 z.2))]; exact a2 j j0 (by omega)
  · intro m ⟨a1, a2⟩
    have e3 : m 3 = μ 3 := a1 3 (by decide)
    exact s_Runner_reset_2 hR ⟨fun _ => h m a1 a2, fun q => by rw [e3] at q; omega⟩
/-- what a cell's register starts with -/
def st_v (μ : ma_M) (c : Int) : Int := if 0 ≤ μ 33 0 c ∧ 0 ≤ μ 23 0 (μ 33 0 c) then μ 8 0 (μ 23 0 (μ 33 0 c)) else 0
