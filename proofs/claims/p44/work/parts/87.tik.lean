theorem sp_outputValue {LS d : Nat} {Post : ma_R → ma_M → Prop} {m : ma_M} {v : Int} {t : Int → Int} (v0 : 0 ≤ v) (v1 : v < 36) (ht : ∀ c : Int, 0 ≤ c → c < 36 → m 63 0 c = t c) (h : Post (.inl (some (ma_I (ch_val (m 61 0) (m 62 0) t (ch_end (m 60) (m 60 13 v)))))) m) :
    ma_Ox LS (d + 5) mi_Chip_outputValue [ma_Rf 57 0, ma_I v] m Post := by
  refine gi_Chip_outputValue (fun R hR => s_Chip_outputValue_0 (d := d) hR ⟨⟨v0, v1⟩, sp_endOf (d := d) (k_Chip_outputValue_17 hR ?_)⟩)
  generalize ch_end (m 60) (m 60 13 v) = a at h ⊢
  unfold ch_val at h
  have wd : (200 ≤ a ∧ a < 272) → ((¬ (Int.tmod a 2) = 0 → (0 ≤ (Int.tdiv (a - 200) 2) ∧ (Int.tdiv (a - 200) 2) < 36) ∧ Post (.inl (some (ma_I (m 62 0 (Int.tdiv (a - 200) 2))))) m) ∧ ((Int.tmod a 2) = 0 → (0 ≤ (Int.tdiv (a - 200) 2) ∧ (Int.tdiv (a - 200) 2) < 36) ∧ Post (.inl (some (ma_I (m 63 0 (Int.tdiv (a - 200) 2))))) m)) := by
    intro ha
    rw [td_nn (a := a - 200) (by omega), tm_nn (a := a) (by omega)]
    rw [if_neg (by omega), if_pos ha] at h
    refine ⟨fun p => ⟨by omega, ?_⟩, fun p => ⟨by omega, ?_⟩⟩
    · rw [if_neg p] at h; exact h
    · rw [if_pos p, ← ht _ (by omega) (by omega)] at h; exact h
  refine ⟨fun a1 => ⟨fun a2 => ?_, fun a2 => ⟨fun a3 => ⟨by omega, by rw [td_nn (a := a - 200) (by omega)]; omega, wd ⟨a2, a3⟩⟩, fun a3 => ?_⟩⟩, fun a1 => ⟨fun a2 => ⟨fun a3 => by omega, fun a3 => ⟨fun a4 => by omega, fun a4 => ?_⟩⟩, fun a2 => ⟨by omega, by omega, ?_⟩⟩⟩
  · rw [if_neg (by omega), if_neg (by omega)] at h; exact h
  · rw [if_neg (by omega), if_neg (by omega)] at h; exact h
  · rw [if_neg (by omega), if_neg (by omega)] at h; exact h
  · rw [if_pos (by omega)] at h; exact h
/-- the class: a tick of the circuit, of the chip -/
theorem sp_runTick {LS d : Nat} {Post : ma_R → ma_M → Prop} {μ : ma_M} {v1 : Int} (Hc : rl_c μ) (Hi : cv_in μ)
    (h : ∀ (m : ma_M) (v : Int → Int), (∀ c : Nat, c ≠ 67 → c ≠ 68 → m c = μ c) → cv_ok μ v (μ 3 0 10) → (∀ i : Int, 0 ≤ i → i < μ 3 0 10 → μ 4 0 i = 114 → m 67 0 i = if μ 9 0 i = v1 then v (μ 7 0 i) else μ 67 0 i) → Post (.inl none) m) :
    ma_Ox LS (d + 3) mi_Runner_takeTick [ma_Rf 66 0, ma_I v1, ma_Rf 61 0] μ Post := by
  have HC := Hc
  obtain ⟨N0, N1, I0, I1, R0, R1, O0, O1, n8, n9, n10, n11, hn, _, hr, _, hrj, hoo⟩ := HC
  refine gi_Runner_takeTick (fun R hR => s_Runner_takeTick_0 (d := d) hR (sp_findValues (d := d) Hc Hi (fun m1 a1 a2 => k_Runner_takeTick_2 hR ?_)))
  refine ma_cnt (σ := ma_M) (N := μ 3 0 12) (P := fun i m => ∀ u w : ma_V, R 7 [ma_Rf 66 0, ma_I v1, u, ma_I i, w] [] 0 m) (I := fun n m => (∀ c : Nat, c ≠ 67 → m c = m1 c) ∧ (∀ j : Int, 0 ≤ j → j < n → m 67 0 (μ 12 0 j) = if μ 9 0 (μ 12 0 j) = v1 then m1 68 0 (μ 7 0 (μ 12 0 j)) else μ 67 0 (μ 12 0 j)) ∧ (∀ j : Int, n ≤ j → j < μ 3 0 12 → m 67 0 (μ 12 0 j) = μ 67 0 (μ 12 0 j))) ?_ ?_ 0 m1 (by omega) (by omega) ⟨fun _ _ => rfl, fun j a b => by omega, fun j _ _ => by rw [a1 67 (by decide)]⟩ _ _
  · intro i m i0 i1 ⟨b1, b2, b3⟩ ih u w
    have em : ∀ c : Nat, c ≠ 67 → c ≠ 68 → m c = μ c := fun c c1 c2 => (b1 c c1).trans (a1 c c2)
    have t := hr i i0 i1
    have nn := ((hn _ t.1 t.2.1).2.2.2.1 t.2.2)
    refine s_Runner_takeTick_7 hR ⟨fun q => by rw [em 3 (by decide) (by decide)] at q; omega, fun _ => ?_⟩
    rw [em 12 (by decide) (by decide), em 9 (by decide) (by decide), em 7 (by decide) (by decide), b1 68 (by decide)]
    refine ⟨by omega, by omega, fun e => ⟨by omega, ih _ ⟨b1, fun j j0 j1 => ?_, fun j j0 j1 => b3 j (by omega) j1⟩ _ _⟩, fun e => ⟨by omega, by omega, ih _ ⟨fun c hc => by rw [ma_up_ck hc]; exact b1 c hc, fun j j0 j1 => ?_, fun j j0 j1 => ?_⟩ _ _⟩⟩
    · by_cases f : j = i
      · rw [f, if_neg e]; exact b3 i (by omega) i1
      · exact b2 j j0 (by omega)
    · by_cases f : j = i
      · rw [f, if_pos e, ma_up_eq]
      · rw [ma_up_ne (fun z => f (cu_reg_inj Hc j0 (by omega) i0 i1 z.2))]; exact b2 j j0 (by omega)
    · rw [ma_up_ne (fun z => by have := cu_reg_inj Hc (by omega) j1 i0 i1 z.2; omega)]; exact b3 j (by omega) j1
  · intro m ⟨b1, b2, b3⟩ u w
    refine s_Runner_takeTick_7 hR ⟨fun _ => h m (m1 68 0) (fun c c1 c2 => (b1 c c1).trans (a1 c c2)) a2 (fun i i0 i1 k => ?_), fun q => by rw [b1 3 (by decide), a1 3 (by decide)] at q; omega⟩
    obtain ⟨j, j0, j1, ej⟩ := hrj i i0 i1 k
    have := b2 j j0 j1
    rw [ej] at this; exact this
/-- what a register of a cell holds after a tick -/
def ch_tk (w : Int → Int → Int) (r t : Int → Int) (clk c : Int) : Int := if w (c / 6) (6 * (c % 6) + 5) % 2 = 1 ∧ w (c / 6) (6 * (c % 6) + 5) / 4 % 4 = clk then t c else r c
theorem sp_chipTick {LS d : Nat} {Post : ma_R → ma_M → Prop} {μ : ma_M} {v1 : Int} (hw : ∀ f i : Int, 0 ≤ f → f < 14 → 0 ≤ i → i < 36 → 0 ≤ μ 60 f i ∧ μ 60 f i ≤ 65535)
    (h : ∀ m : ma_M, (∀ c : Nat, c ≠ 57 → c ≠ 62 → c ≠ 63 → c ≠ 64 → c ≠ 65 → m c = μ c) → (∀ c : Int, 0 ≤ c → c < 36 → m 62 0 c = ch_tk (μ 60) (μ 62 0) (ch_T (μ 60) (μ 61 0) (μ 62 0) 40) v1 c) → m 57 0 3 = ma_wL (μ 57 0 3 + 1) → Post (.inl none) m) :
    ma_Ox LS (d + 7) mi_Chip_takeTick [ma_Rf 57 0, ma_I v1] μ Post := by
  refine gi_Chip_takeTick (fun R hR => s_Chip_takeTick_0 (d := d) hR (sp_findTables (d := d) (fun m1 a1 a2 => k_Chip_takeTick_1 hR ?_)))
  refine ma_cnt (σ := ma_M) (N := 36) (P := fun i m => ∀ u : ma_V, R 6 [ma_Rf 57 0, ma_I v1, ma_I i, u] [] 0 m) (I := fun n m => (∀ c : Nat, c ≠ 62 → m c = m1 c) ∧ (∀ c : Int, 0 ≤ c → c < n → m 62 0 c = ch_tk (μ 60) (μ 62 0) (ch_T (μ 60) (μ 61 0) (μ 62 0) 40) v1 c) ∧ (∀ c : Int, n ≤ c → c < 36 → m 62 0 c = μ 62 0 c)) ?_ ?_ 0 m1 (by omega) (by omega) ⟨fun _ _ => rfl, fun j a b => by omega, fun j _ _ => by rw [a1 62 (by decide) (by decide) (by decide)]⟩ _
  · intro c m c0 c1 ⟨b1, b2, b3⟩ ih u
    have e60 : m 60 = μ 60 := (b1 60 (by decide)).trans (a1 60 (by decide) (by decide) (by decide))
    have W := hw (c / 6) (6 * (c % 6) + 5) (by omega) (by omega) (by omega) (by omega)
    refine s_Chip_takeTick_6 hR ⟨fun q => by omega, fun _ => ?_⟩
    have nx : ∀ x : Int, x = ch_tk (μ 60) (μ 62 0) (ch_T (μ 60) (μ 61 0) (μ 62 0) 40) v1 c → R 6 [ma_Rf 57 0, ma_I v1, ma_I (c + 1), ma_U] [] 0 (ma_up m 62 0 c x) := by
      intro x hx
      refine ih _ ⟨fun k hk => by rw [ma_up_ck hk]; exact b1 k hk, fun j j0 j1 => ?_, fun j j0 j1 => ?_⟩ _
      · by_cases f : j = c
        · rw [f, ma_up_eq, hx]
        · rw [ma_up_ne (by omega)]; exact b2 j j0 (by omega)
      · rw [ma_up_ne (by omega)]; exact b3 j (by omega) j1
    have ny : m 62 0 c = ch_tk (μ 60) (μ 62 0) (ch_T (μ 60) (μ 61 0) (μ 62 0) 40) v1 c → R 6 [ma_Rf 57 0, ma_I v1, ma_I (c + 1), ma_U] [] 0 m := by
      intro hx
      refine ih _ ⟨b1, fun j j0 j1 => ?_, fun j j0 j1 => b3 j (by omega) j1⟩ _
      by_cases f : j = c
      · rw [f]; exact hx
      · exact b2 j j0 (by omega)
    unfold ch_tk at nx ny
    have o := b3 c (by omega) c1
    have t63 : m 63 0 c = ch_T (μ 60) (μ 61 0) (μ 62 0) 40 c := by rw [b1 63 (by decide)]; exact a2 c c0 c1
    rw [e60, td_nn c0, tm_nn c0, t63]
    generalize μ 60 (c / 6) (6 * (c % 6) + 5) = y at W nx ny ⊢
    rw [td_nn (a := y) W.1, tm_nn (a := y) W.1, tm_nn (a := y / 4) (by omega)]
    refine ⟨by omega, by omega, by omega, by omega, by omega, fun p => ⟨by omega, ny ?_⟩, fun p => ⟨by omega, fun q => ⟨by omega, ny ?_⟩, fun q => ⟨by omega, by omega, nx _ ?_⟩⟩⟩
    · rw [if_neg (fun z => p z.1)]; exact o
    · rw [if_neg (fun z => q z.2)]; exact o
    · rw [if_pos ⟨p, q⟩]
  · intro m ⟨b1, b2, b3⟩ u
    refine s_Chip_takeTick_6 hR ⟨fun _ => h _ (fun c k1 k2 k3 k4 k5 => by rw [ma_up_ck k1, b1 c k2]; exact a1 c k3 k4 k5) (fun c c0 c1 => by rw [ma_up_ck (by decide)]; exact b2 c c0 c1) ?_, fun q => by omega⟩
    rw [ma_up_eq, b1 57 (by decide), a1 57 (by decide) (by decide) (by decide)]

