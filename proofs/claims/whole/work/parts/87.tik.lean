/-! chipOutput, tick -/
theorem Rel_st {m0 m : ma_M} (H : Rel m0) (h : ch_st m0 m) {K K' : Nat} (hK : K = 107 ∧ K' = 108 ∨ K = 108 ∧ K' = 107) (h46 : m 69 0 46 = K) (h47 : m 69 0 47 = K') : Rel m := by
  refine Rel_k H (fun k _ _ _ _ _ _ _ _ _ k10 _ _ _ _ _ k16 k17 _ _ _ => h.1 k k10 k16 k17) (fun f f1 f2 _ _ => h.2 f f1 f2) (by rw [h46, h47]; omega) (fun st => ?_)
  refine rl_k_congr (fun c hc => h.1 c ?_ ?_ ?_) (fun f hf => h.2 f ?_ ?_) (H.2.2.2.2.2.2.2 st)
  all_goals first | (rintro rfl; revert hc; decide) | (rintro rfl; revert hf; decide)
theorem sp_outputValue {LS d : Nat} {Post : ma_R → ma_M → Prop} {m : ma_M} {v : Int} {t : Int → Int} (v0 : 0 ≤ v) (v1 : v < 36) (ht : ∀ c : Int, 0 ≤ c → c < 36 → m 63 0 c = t c) (h : Post (.inl (some (ma_I (ch_val (m 61 0) (m 62 0) t (ch_end (m 60) (m 60 13 v)))))) m) :
    ma_Ox LS (d + 5) mi_Chip_outputValue [ma_Rf 57 0, ma_I v] m Post := by
  refine gi_Chip_outputValue (fun R hR => s_Chip_outputValue_0 (d := d) hR ⟨⟨v0, v1⟩, sp_endOf (d := d) (k_Chip_outputValue_17 hR ?_)⟩)
  generalize ch_end (m 60) (m 60 13 v) = a at h ⊢
  unfold ch_val at h
  have wd : (200 ≤ a ∧ a < 272) → ((¬ (Int.tmod a 2) = 0 → (0 ≤ (Int.tdiv (a - 200) 2) ∧ (Int.tdiv (a - 200) 2) < 36) ∧ Post (.inl (some (ma_I (m 62 0 (Int.tdiv (a - 200) 2))))) m) ∧ ((Int.tmod a 2) = 0 → (0 ≤ (Int.tdiv (a - 200) 2) ∧ (Int.tdiv (a - 200) 2) < 36) ∧ Post (.inl (some (ma_I (m 63 0 (Int.tdiv (a - 200) 2))))) m)) := by
    intro ha
    rw [td_nn (a := a - 200) (by omega), tm_nn (a := a) (by omega)]
    rw [if_neg (by omega), if_pos ha] at h
    refine ⟨fun p => ⟨by omega, ?_⟩, fun p => ⟨by omega, ?_⟩⟩
    · rw [if_neg p] at h; exact h
    · rw [if_pos p, ← ht _ (by omega) (by omega)] at h; exact h
  refine ⟨fun a1 => ⟨fun a2 => ?_, fun a2 => ⟨fun a3 => ⟨by omega, by rw [td_nn (a := a - 200) (by omega)]; omega, wd ⟨a2, a3⟩⟩, fun a3 => ?_⟩⟩, fun a1 => ⟨fun a2 => ⟨fun a3 => by omega, fun a3 => ⟨fun a4 => by omega, fun a4 => ?_⟩⟩, fun a2 => ⟨by omega, by omega, ?_⟩⟩⟩
  · rw [if_neg (by omega), if_neg (by omega)] at h; exact h
  · rw [if_neg (by omega), if_neg (by omega)] at h; exact h
  · rw [if_neg (by omega), if_neg (by omega)] at h; exact h
  · rw [if_pos (by omega)] at h; exact h
theorem pr_chipOutput {LS d : Nat} {μ : ma_M} (H : Rel μ) {v1 : Int} : Pr LS d mi_LatticefitLaw_chipOutput [ma_Rf 2 0, ma_I v1, ma_Rf 111 0] mi_LatticefitModel_chipOutput [ma_Rf 69 0, ma_I v1] agZ μ := by
  intro Post hP
  obtain ⟨Hc, Hs, Hz, Hu, Hm, Hr, Hf, Hk⟩ := id H
  have s29 := Hs.2.2.2.2.2
  have T1 := Rel_thrown H 1
  have T2 := Rel_thrown (Rel_thrown H 0) 2
  have HC := Hc
  obtain ⟨N0, N1, I0, I1, R0, R1, O0, O1, n8, n9, n10, n11, hn, _, hr, _, hrj, hoo⟩ := HC
  refine gi_LatticefitLaw_chipOutput (fun R hR => s_LatticefitLaw_chipOutput_0 (d := d + 4) hR ?_)
  refine gi_Latticefit_chipOutput (fun R2 hR2 => s_Latticefit_chipOutput_0 (d := d + 4) hR2 ?_)
  have L2 : (v1 < 0 ∨ μ 3 0 13 ≤ v1) → ma_ct (ma_Ox LS (d + 4 + 7)) (LS, [(0, 16, 19, 2), (0, 16, 22, 0)], 1, 2) 4 [ma_Rf 2 0, ma_I v1, ma_Rf 111 0, ma_U] [ma_I 0, ma_Rf 111 0] 2 mt_LatticefitLaw_chipOutput_7 R (ma_DD (LS, [(0, 16, 19, 2), (0, 16, 22, 0)], 1, 2) Post) (.inr 2) μ := by
    intro hc
    show R 19 [ma_Rf 2 0, ma_I v1, ma_Rf 111 0, ma_U] [ma_X 2] 2 μ
    refine g_LatticefitLaw_chipOutput_19 hR ⟨Nat.le_refl 2, hP 1 μ (fun Post2 h2 => ?_)⟩
    have fin := h2 (ma_I 0) _ T1 ma_up_eq (fun z => by omega)
    exact gi_LatticefitModel_chipOutput (fun R3 hR3 => s_LatticefitModel_chipOutput_0 (d := d + 7) hR3 ⟨by omega, fun _ => fin, fun _ => ⟨fun _ => fin, fun _ => by omega⟩⟩)
  refine ⟨fun a => L2 (.inl a), fun a => ⟨fun b => ⟨fun st => ?_, fun st => ?_⟩, fun b => L2 (.inr b)⟩⟩
  · have K := Hk st
    have ci := ch_in_of H K
    have v01 := ch_val_01 (g := μ 61 0) (r := μ 62 0) (t := ch_T (μ 60) (μ 61 0) (μ 62 0) 40) (fun j j0 j1 => (ci.2.1 j j0 j1).2.1) (fun c c0 c1 => (ci.2.2.1 c c0 c1).2) (fun c _ _ => ch_T_01 40 c) (ch_end (μ 60) (μ 60 13 v1))
    refine sp_findTables (d := d + 4) (fun m1 a1 a2 => k_Latticefit_chipOutput_9 hR2 (sp_outputValue (d := d + 5) a (by omega) a2 ?_))
    rw [a1 60 (by decide) (by decide) (by decide), a1 61 (by decide) (by decide) (by decide), a1 62 (by decide) (by decide) (by decide)]
    generalize hx : ch_val (μ 61 0) (μ 62 0) (ch_T (μ 60) (μ 61 0) (μ 62 0) 40) (ch_end (μ 60) (μ 60 13 v1)) = x at v01 ⊢
    have key : Post (.inl (some (ma_I 0))) (ma_up m1 111 0 0 x) := by
      refine hP 0 _ (fun Post2 h2 => ?_)
      have b1 : ∀ c : Nat, c ≠ 63 → c ≠ 64 → c ≠ 65 → c ≠ 111 → (ma_up m1 111 0 0 x) c = μ c := fun c k1 k2 k3 k4 => by rw [ma_up_ck k4]; exact a1 c k1 k2 k3
      have b2 : (ma_up m1 111 0 0 x) 111 0 0 = x := ma_up_eq
      generalize ma_up m1 111 0 0 x = M at b1 b2 ⊢
      have RM : Rel M := Rel_scr H (fun c hc => b1 c (by rintro rfl; revert hc; decide) (by rintro rfl; revert hc; decide) (by rintro rfl; revert hc; decide) (by rintro rfl; revert hc; decide)) (fun f _ => by rw [b1 69 (by decide) (by decide) (by decide) (by decide)])
      have RM0 := Rel_thrown (Rel_thrown RM 0) 0
      have M69 : M 69 = μ 69 := b1 69 (by decide) (by decide) (by decide) (by decide)
      have n50 : ∀ f : Int, f ≠ 50 → (ma_up (ma_up M 69 0 50 0) 69 0 50 0) 69 0 f = μ 69 0 f := fun f hf => by rw [ma_up_ne (by omega), ma_up_ne (by omega), M69]
      have ci2 : ch_in (ma_up (ma_up M 69 0 50 0) 69 0 50 0) (μ 60) (μ 61 0) (μ 62 0) := ch_in_cg (fun c hc => by rw [ma_up_ck (by omega), ma_up_ck (by omega)]; exact b1 c (by omega) (by omega) (by omega) (by omega)) (n50 9 (by decide)) ci
      refine gi_LatticefitModel_chipOutput (fun R3 hR3 => s_LatticefitModel_chipOutput_0 (d := d + 7) hR3 ⟨by rw [M69, n11]; omega, fun _ => by omega, fun _ => ⟨fun q => by rw [M69, n11] at q; omega, fun _ => ⟨fun _ => ?_, fun q => by rw [M69, s29, if_pos st] at q; omega⟩⟩⟩)
      refine sp_settles (d := d + 7) ci2 (by rw [n50 46 (by decide), n50 47 (by decide)]; exact Hz.2.2.2.2.1) (fun m2 K K' c1 hK c46 c47 c2 => k_LatticefitModel_chipOutput_15 hR3 ⟨by omega, by omega, ?_⟩)
      have ci3 : ch_in m2 (μ 60) (μ 61 0) (μ 62 0) := ch_in_cg (fun c hc => c1.1 c (by omega) (by omega) (by omega)) (c1.2 9 (by decide) (by decide)) ci2
      refine sp_valueOf (d := d + 8) ci3 (by rcases hK with z | z; exact .inl z.1; exact .inr z.1) c46 (fun c c0 c1 => ⟨c2 c c0 c1, ch_T_01 40 c⟩) (k_LatticefitModel_chipOutput_29 hR3 ?_)
      rw [show 468 + v1 = 36 * 13 + v1 from by omega, (ci3.1.2 13 v1 (by omega) (by omega) a (by omega)).1, hx]
      refine ⟨v01, h2 _ m2 (Rel_st RM0 c1 hK c46 c47) (by rw [c1.2 50 (by decide) (by decide)]; exact ma_up_eq) (fun _ => ⟨_, rfl, v01, ?_⟩)⟩
      rw [c1.1 111 (by decide) (by decide) (by decide), ma_up_ck (by decide), ma_up_ck (by decide)]; exact b2
    refine k_Latticefit_chipOutput_17 hR2 ⟨fun z => ?_, fun z => ?_⟩
    · rw [z] at key
      exact k_LatticefitLaw_chipOutput_4 hR ⟨fun _ => ⟨by omega, key⟩, fun q => absurd rfl q⟩
    · rw [show x = 1 from by rcases v01 with y | y; exact absurd y z; exact y] at key
      exact k_LatticefitLaw_chipOutput_4 hR ⟨fun q => absurd q (by decide), fun _ => ⟨by omega, key⟩⟩
  · show R 22 [ma_Rf 2 0, ma_I v1, ma_Rf 111 0, ma_U] [ma_X 0] 2 μ
    refine g_LatticefitLaw_chipOutput_22 hR ⟨Nat.le_refl 2, hP 2 μ (fun Post2 h2 => ?_)⟩
    have fin := h2 (ma_I 0) _ T2 ma_up_eq (fun z => by omega)
    exact gi_LatticefitModel_chipOutput (fun R3 hR3 => s_LatticefitModel_chipOutput_0 (d := d + 7) hR3 ⟨by omega, fun _ => by omega, fun _ => ⟨fun _ => by omega, fun _ => ⟨fun q => absurd (by rw [s29, if_neg (by omega)]) q, fun _ => fin⟩⟩⟩)
/-- the class: a tick of the circuit, of the chip -/
theorem sp_runTick {LS d : Nat} {Post : ma_R → ma_M → Prop} {μ : ma_M} {v1 : Int} (Hc : rl_c μ) (Hi : cv_in μ)
    (h : ∀ (m : ma_M) (v : Int → Int), (∀ c : Nat, c ≠ 67 → c ≠ 68 → m c = μ c) → cv_ok μ v (μ 3 0 10) → (∀ i : Int, 0 ≤ i → i < μ 3 0 10 → μ 4 0 i = 114 → m 67 0 i = if μ 9 0 i = v1 then v (μ 7 0 i) else μ 67 0 i) → Post (.inl none) m) :
    ma_Ox LS (d + 3) mi_Runner_takeTick [ma_Rf 66 0, ma_I v1, ma_Rf 61 0] μ Post := by
  have HC := Hc
  obtain ⟨N0, N1, I0, I1, R0, R1, O0, O1, n8, n9, n10, n11, hn, _, hr, _, hrj, hoo⟩ := HC
  refine gi_Runner_takeTick (fun R hR => s_Runner_takeTick_0 (d := d) hR (sp_findValues (d := d) Hc Hi (fun m1 a1 a2 => k_Runner_takeTick_2 hR ?_)))
  refine ma_cnt (σ := ma_M) (N := μ 3 0 12) (P := fun i m => ∀ u w : ma_V, R 7 [ma_Rf 66 0, ma_I v1, u, ma_I i, w] [] 0 m) (I := fun n m => (∀ c : Nat, c ≠ 67 → m c = m1 c) ∧ (∀ j : Int, 0 ≤ j → j < n → m 67 0 (μ 12 0 j) = if μ 9 0 (μ 12 0 j) = v1 then m1 68 0 (μ 7 0 (μ 12 0 j)) else μ 67 0 (μ 12 0 j)) ∧ (∀ j : Int, n ≤ j → j < μ 3 0 12 → m 67 0 (μ 12 0 j) = μ 67 0 (μ 12 0 j))) ?_ ?_ 0 m1 (by omega) (by omega) ⟨fun _ _ => rfl, fun j a b => by omega, fun j _ _ => by rw [a1 67 (by decide)]⟩ _ _
  · intro i m i0 i1 ⟨b1, b2, b3⟩ ih u w
    have em : ∀ c : Nat, c ≠ 67 → c ≠ 68 → m c = μ c := fun c c1 c2 => (b1 c c1).trans (a1 c c2)
    have t := hr i i0 i1
    have nn := ((hn _ t.1 t.2.1).2.2.2.1 t.2.2)
    refine s_Runner_takeTick_7 hR ⟨fun q => by rw [em 3 (by decide) (by decide)] at q; omega, fun _ => ?_⟩
    rw [em 12 (by decide) (by decide), em 9 (by decide) (by decide), em 7 (by decide) (by decide), b1 68 (by decide)]
    refine ⟨by omega, by omega, fun e => ⟨by omega, ih _ ⟨b1, fun j j0 j1 => ?_, fun j j0 j1 => b3 j (by omega) j1⟩ _ _⟩, fun e => ⟨by omega, by omega, ih _ ⟨fun c hc => by rw [ma_up_ck hc]; exact b1 c hc, fun j j0 j1 => ?_, fun j j0 j1 => ?_⟩ _ _⟩⟩
    · by_cases f : j = i
      · rw [f, if_neg e]; exact b3 i (by omega) i1
      · exact b2 j j0 (by omega)
    · by_cases f : j = i
      · rw [f, if_pos e, ma_up_eq]
      · rw [ma_up_ne (fun z => f (cu_reg_inj Hc j0 (by omega) i0 i1 z.2))]; exact b2 j j0 (by omega)
    · rw [ma_up_ne (fun z => by have := cu_reg_inj Hc (by omega) j1 i0 i1 z.2; omega)]; exact b3 j (by omega) j1
  · intro m ⟨b1, b2, b3⟩ u w
    refine s_Runner_takeTick_7 hR ⟨fun _ => h m (m1 68 0) (fun c c1 c2 => (b1 c c1).trans (a1 c c2)) a2 (fun i i0 i1 k => ?_), fun q => by rw [b1 3 (by decide), a1 3 (by decide)] at q; omega⟩
    obtain ⟨j, j0, j1, ej⟩ := hrj i i0 i1 k
    have := b2 j j0 j1
    rw [ej] at this; exact this
/-- what a register of a cell holds after a tick -/
def ch_tk (w : Int → Int → Int) (r t : Int → Int) (clk c : Int) : Int := if w (c / 6) (6 * (c % 6) + 5) % 2 = 1 ∧ w (c / 6) (6 * (c % 6) + 5) / 4 % 4 = clk then t c else r c
theorem sp_chipTick {LS d : Nat} {Post : ma_R → ma_M → Prop} {μ : ma_M} {v1 : Int} (hw : ∀ f i : Int, 0 ≤ f → f < 14 → 0 ≤ i → i < 36 → 0 ≤ μ 60 f i ∧ μ 60 f i ≤ 65535)
    (h : ∀ m : ma_M, (∀ c : Nat, c ≠ 57 → c ≠ 62 → c ≠ 63 → c ≠ 64 → c ≠ 65 → m c = μ c) → (∀ c : Int, 0 ≤ c → c < 36 → m 62 0 c = ch_tk (μ 60) (μ 62 0) (ch_T (μ 60) (μ 61 0) (μ 62 0) 40) v1 c) → m 57 0 3 = ma_wL (μ 57 0 3 + 1) → Post (.inl none) m) :
    ma_Ox LS (d + 7) mi_Chip_takeTick [ma_Rf 57 0, ma_I v1] μ Post := by
  refine gi_Chip_takeTick (fun R hR => s_Chip_takeTick_0 (d := d) hR (sp_findTables (d := d) (fun m1 a1 a2 => k_Chip_takeTick_1 hR ?_)))
  refine ma_cnt (σ := ma_M) (N := 36) (P := fun i m => ∀ u : ma_V, R 6 [ma_Rf 57 0, ma_I v1, ma_I i, u] [] 0 m) (I := fun n m => (∀ c : Nat, c ≠ 62 → m c = m1 c) ∧ (∀ c : Int, 0 ≤ c → c < n → m 62 0 c = ch_tk (μ 60) (μ 62 0) (ch_T (μ 60) (μ 61 0) (μ 62 0) 40) v1 c) ∧ (∀ c : Int, n ≤ c → c < 36 → m 62 0 c = μ 62 0 c)) ?_ ?_ 0 m1 (by omega) (by omega) ⟨fun _ _ => rfl, fun j a b => by omega, fun j _ _ => by rw [a1 62 (by decide) (by decide) (by decide)]⟩ _
  · intro c m c0 c1 ⟨b1, b2, b3⟩ ih u
    have e60 : m 60 = μ 60 := (b1 60 (by decide)).trans (a1 60 (by decide) (by decide) (by decide))
    have W := hw (c / 6) (6 * (c % 6) + 5) (by omega) (by omega) (by omega) (by omega)
    refine s_Chip_takeTick_6 hR ⟨fun q => by omega, fun _ => ?_⟩
    have nx : ∀ x : Int, x = ch_tk (μ 60) (μ 62 0) (ch_T (μ 60) (μ 61 0) (μ 62 0) 40) v1 c → R 6 [ma_Rf 57 0, ma_I v1, ma_I (c + 1), ma_U] [] 0 (ma_up m 62 0 c x) := by
      intro x hx
      refine ih _ ⟨fun k hk => by rw [ma_up_ck hk]; exact b1 k hk, fun j j0 j1 => ?_, fun j j0 j1 => ?_⟩ _
      · by_cases f : j = c
        · rw [f, ma_up_eq, hx]
        · rw [ma_up_ne (by omega)]; exact b2 j j0 (by omega)
      · rw [ma_up_ne (by omega)]; exact b3 j (by omega) j1
    have ny : m 62 0 c = ch_tk (μ 60) (μ 62 0) (ch_T (μ 60) (μ 61 0) (μ 62 0) 40) v1 c → R 6 [ma_Rf 57 0, ma_I v1, ma_I (c + 1), ma_U] [] 0 m := by
      intro hx
      refine ih _ ⟨b1, fun j j0 j1 => ?_, fun j j0 j1 => b3 j (by omega) j1⟩ _
      by_cases f : j = c
      · rw [f]; exact hx
      · exact b2 j j0 (by omega)
    unfold ch_tk at nx ny
    have o := b3 c (by omega) c1
    have t63 : m 63 0 c = ch_T (μ 60) (μ 61 0) (μ 62 0) 40 c := by rw [b1 63 (by decide)]; exact a2 c c0 c1
    rw [e60, td_nn c0, tm_nn c0, t63]
    generalize μ 60 (c / 6) (6 * (c % 6) + 5) = y at W nx ny ⊢
    rw [td_nn (a := y) W.1, tm_nn (a := y) W.1, tm_nn (a := y / 4) (by omega)]
    refine ⟨by omega, by omega, by omega, by omega, by omega, fun p => ⟨by omega, ny ?_⟩, fun p => ⟨by omega, fun q => ⟨by omega, ny ?_⟩, fun q => ⟨by omega, by omega, nx _ ?_⟩⟩⟩
    · rw [if_neg (fun z => p z.1)]; exact o
    · rw [if_neg (fun z => q z.2)]; exact o
    · rw [if_pos ⟨p, q⟩]
  · intro m ⟨b1, b2, b3⟩ u
    refine s_Chip_takeTick_6 hR ⟨fun _ => h _ (fun c k1 k2 k3 k4 k5 => by rw [ma_up_ck k1, b1 c k2]; exact a1 c k3 k4 k5) (fun c c0 c1 => by rw [ma_up_ck (by decide)]; exact b2 c c0 c1) ?_, fun q => by omega⟩
    rw [ma_up_eq, b1 57 (by decide), a1 57 (by decide) (by decide) (by decide)]
