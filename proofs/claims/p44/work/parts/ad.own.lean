/-! the law's own methods on the running chip: values, areOutputs, ticks, begins, areSources -/
def vP (μ : ma_M) : ma_M → Prop := fun m => (∀ c : Nat, c ≠ 70 → m c = μ c) ∧ cv_ok μ (m 70 0) (μ 3 0 10)
theorem vl_run {LS : Nat} {μ : ma_M} {a : Int} (H : rg μ a) (hn : ns μ) : ma_rx (ma_Ox LS 8) (LS, [], 9, 8) (ma_at mb_LatticefitLaw_values) (ma_DD (LS, [], 9, 8) ma_nP) (vl_X (vP μ)) 4 [ma_Rf 69 0, ma_U, ma_U, ma_U] [ma_Rf 70 0] 8 (mv_mu μ) := by
  intro R hR hX
  have Hc := H.1.1.1
  have Hi := rg_in H
  obtain ⟨l0, l1, l2, l3, Ln, Lo⟩ := H.2.1
  have bn := H.2.2.2.1
  have N0 := Hc.1
  refine s_LatticefitLaw_values_4 (d := 7) hR ?_
  refine ma_cnt (σ := ma_M) (N := μ 3 0 10) (P := fun i m => ∀ u : ma_V, R 7 [ma_Rf 69 0, ma_Rf 70 0, ma_I i, u] [] 8 m) (I := fun n m => (∀ c : Nat, c ≠ 70 → m c = μ c) ∧ cv_ok μ (m 70 0) n) ?_ ?_ 0 (mv_mu μ) (by omega) (by omega) ⟨fun c hc => by funext r i; unfold mv_mu; rw [if_neg hc], fun n x y => by omega⟩ _
  · intro n m n0 n1 ⟨a1, a2⟩ ih u
    have e69 := a1 69 (by decide)
    have nx : ∀ x : Int, x = cv_eq μ (m 70 0) n → R 7 [ma_Rf 69 0, ma_Rf 70 0, ma_I (n + 1), ma_U] [] 8 (ma_up m 70 0 n x) := fun x hx => ih _ ⟨fun c hc => by rw [ma_up_ck hc]; exact a1 c hc, cv_up Hc Hi n0 n1 a2 (fun k => by simp [ma_up_rd]) hx⟩ _
    have nn := Hc.2.2.2.2.2.2.2.2.2.2.2.2.1 n n0 n1
    have L := Ln n n0 n1
    unfold ln_n at L
    refine s_LatticefitLaw_values_7 (d := 7) hR ⟨fun q => by rw [e69] at q; omega, fun _ => ?_⟩
    rw [e69, L.1]
    refine ⟨by omega, by omega, by omega, fun k1 => ⟨fun k2 => ?_, fun k2 => ⟨by omega, by omega, by omega, by omega, nx _ ?_⟩⟩, fun k1 => ?_⟩
    · have g := cv_gate Hc n0 n1 k1 k2
      have L2 := L.2.2.2 k1 k2
      have xa := (a2 _ g.2.1 g.2.2.1).1
      have xb := (a2 _ g.2.2.2.2.1 g.2.2.2.2.2).1
      rw [L2.1, L2.2]
      unfold cv_eq at nx
      rw [if_neg k1, if_neg k2] at nx
      generalize m 70 0 (μ 5 0 n) = x at xa nx ⊢
      generalize m 70 0 (μ 6 0 n) = y at xb nx ⊢
      refine ⟨by omega, by omega, by omega, by omega, by omega, by omega, fun k3 => ⟨fun k4 => ⟨fun k5 => ⟨by omega, by omega, by omega, nx _ ?_⟩, fun k5 => ⟨by omega, by omega, nx _ ?_⟩⟩, fun k4 => ⟨by omega, by omega, nx _ ?_⟩⟩, fun k3 => ⟨by omega, by omega, nx _ ?_⟩⟩
      · rw [if_neg k3, if_neg k4, if_neg k5]; rcases xa with rfl | rfl <;> decide
      · rw [if_neg k3, if_neg k4, if_pos k5]; rcases xa with rfl | rfl <;> rcases xb with rfl | rfl <;> decide
      · rw [if_neg k3, if_pos k4]; rcases xa with rfl | rfl <;> rcases xb with rfl | rfl <;> decide
      · rw [if_pos k3]; rcases xa with rfl | rfl <;> rcases xb with rfl | rfl <;> decide
    · unfold cv_eq
      rw [if_neg k1, if_pos k2]
      exact hn.2 n n0 n1 k2
    · have k3 := nn.2.2.1 k1
      have k4 := L.2.1 k1
      rw [k4]
      refine ⟨by omega, by omega, by omega, by omega, by omega, by omega, nx _ ?_⟩
      unfold cv_eq
      rw [if_pos k1]
      exact hn.1 _ k3.2.1 (by omega)
  · intro m ⟨a1, a2⟩ u
    refine s_LatticefitLaw_values_7 (d := 7) hR ⟨fun _ => hX _ _ _ _ _ ⟨rfl, rfl, rfl, rfl, a1, a2⟩, fun q => by rw [a1 69 (by decide)] at q; omega⟩
def ao_l : List Nat := [63, 64, 65, 68, 70]
theorem ao_O (l : Launch) (hls : l.stackTraces = false) {L : Nat} (hL : L ≤ 260) {μ : ma_M} {a v2 : Int} {Post : ma_R → ma_M → Prop} (H : rg μ a) (hn : ns μ) (hw : v2 = 0 ∨ v2 = 1 ∧ fr_w μ (μ 60)) (h : ∀ m : ma_M, (∀ c : Nat, c ∉ ao_l → m c = μ c) → Post (.inl (some (ma_I 1))) m) (hP : ∀ (x : Nat) (m : ma_M), ¬ Post (.inr x) m) : mv_O l L 10 mi_LatticefitLaw_areOutputs [ma_Rf 2 0, ma_Rf 69 0, ma_I v2] μ Post := by
  intro G hLS h69
  have bn := H.2.2.2.1
  refine mv_Met l hls G (by omega) (y := mi_LatticefitLaw_areOutputs) (iv := 144) (kk := 1) (t := mb_LatticefitLaw_areOutputs) (d := 9) (PV := vP μ) (by decide) (by decide) (by decide) (by decide) (.inr rfl) ar_chk (by decide +kernel) (by decide +kernel) (by decide) rfl (ma_leb rfl) rfl rfl (by decide) (vl_Met l hls G (by omega) h69 (d := 8) (vl_run H hn)) (fun m1 hm R hR => ?_) hP
  obtain ⟨m1c, hV⟩ := hm
  have e0 : G.LS = L := hLS
  obtain ⟨l0, l1, l2, l3, Ln, Lo⟩ := H.2.1
  have hm1 : ∀ c : Nat, c ∉ ao_l → m1 c = μ c := fun c hc => m1c c (by rintro rfl; exact hc (by decide))
  show R 4 [ma_Rf 2 0, ma_Rf 69 0, ma_I v2, ma_U, ma_U, ma_U] [ma_Rf 70 0] 8 m1
  refine s_LatticefitLaw_areOutputs_4 (d := 1) hR ?_
  have lp : ∀ (n : Nat) (m : ma_M) (v4 : Int) (k : Nat) (u : ma_V), 0 ≤ v4 → v4 + n = μ 3 0 13 → k + 4 * n ≤ 24 → (∀ c : Nat, c ∉ ao_l → m c = μ c) → m 70 0 = m1 70 0 → R 8 [ma_Rf 2 0, ma_Rf 69 0, ma_I v2, ma_Rf 70 0, ma_I v4, u] [] k m := by
    intro n
    induction n with
    | zero =>
      intro m v4 k u v0 hv hk hm e70
      have hl : ∀ (l : List Nat), (∀ c ∈ l, c ∉ ao_l) → ∀ c ∈ l, m c = μ c := fun l hl c hc => hm c (hl c hc)
      have Hm := rg_congr (hl _ (by decide)) H
      have e69 := hm 69 (by decide)
      refine s_LatticefitLaw_areOutputs_8 (d := 1) hR ⟨fun _ => ⟨fun z => ⟨by omega, h m hm⟩, fun z => ⟨by omega, ?_⟩⟩, fun q => by rw [e69] at q; omega⟩
      have hw2 : fr_w m (m 60) := by
        rcases hw with w | w
        · exact absurd w z
        · rw [hm 60 (by decide)]; exact fr_congr (hl _ (by decide)) w.2
      refine sp_agr (d := 1) Hm hw2 (fun m2 hm2 => k_LatticefitLaw_areOutputs_67 (d := 1) hR ⟨fun q => absurd rfl q, fun _ => ⟨by omega, h m2 (fun c hc => ?_)⟩⟩)
      have ne : ∀ k : Nat, k ∈ ao_l → c ≠ k := fun k hk e => hc (e ▸ hk)
      rw [hm2 c (ne 63 (by decide)) (ne 64 (by decide)) (ne 65 (by decide)) (ne 68 (by decide))]
      exact hm c hc
    | succ n ih =>
      intro m v4 k u v0 hv hk hm e70
      have hl : ∀ (l : List Nat), (∀ c ∈ l, c ∉ ao_l) → ∀ c ∈ l, m c = μ c := fun l hl c hc => hm c (hl c hc)
      have Hm := rg_congr (hl _ (by decide)) H
      have e69 := hm 69 (by decide)
      have e3 := hm 3 (by decide)
      have e13 := hm 13 (by decide)
      have hVm : cv_ok m (m1 70 0) (m 3 0 10) := by
        unfold cv_ok cv_eq at hV ⊢
        rw [hm 3 (by decide), hm 4 (by decide), hm 5 (by decide), hm 6 (by decide), hm 10 (by decide), hm 61 (by decide), hm 67 (by decide)]
        exact hV
      have lo := Lo v4 v0 (by omega)
      have oo := rg_o H hV v0 (by omega)
      refine s_LatticefitLaw_areOutputs_8 (d := 1) hR ⟨fun q => by rw [e69] at q; omega, fun _ => ?_⟩
      rw [e69, lo, e70]
      refine ⟨by omega, by omega, by omega, by omega, sp_cirOut (d := 5) Hm hVm v0 (by rw [e3]; omega) (fun m2 hm2 => k_LatticefitLaw_areOutputs_31 (d := 1) hR ?_)⟩
      rw [e13]
      have hm2' : ∀ c : Nat, c ∉ ao_l → m2 c = μ c := fun c hc => by
        rw [hm2 c (by rintro rfl; exact hc (by decide))]; exact hm c hc
      have e702 : m2 70 0 = m1 70 0 := by rw [hm2 70 (by decide)]; exact e70
      refine ⟨fun q => absurd rfl q, fun _ => ⟨fun z => ⟨by omega, ih m2 _ _ _ (by omega) (by omega) (by omega) hm2' e702⟩, fun z => ⟨by omega, ?_⟩⟩⟩
      have hl2 : ∀ (l : List Nat), (∀ c ∈ l, c ∉ ao_l) → ∀ c ∈ l, m2 c = μ c := fun l hl c hc => hm2' c (hl c hc)
      have Hm2 := rg_congr (hl2 _ (by decide)) H
      have hw2 : fr_w m2 (m2 60) := by
        rcases hw with w | w
        · exact absurd w z
        · rw [hm2' 60 (by decide)]; exact fr_congr (hl2 _ (by decide)) w.2
      have hVm2 : cv_ok m2 (m1 70 0) (m2 3 0 10) := by
        unfold cv_ok cv_eq at hV ⊢
        rw [hm2' 3 (by decide), hm2' 4 (by decide), hm2' 5 (by decide), hm2' 6 (by decide), hm2' 10 (by decide), hm2' 61 (by decide), hm2' 67 (by decide)]
        exact hV
      refine sp_chOut (d := 1) Hm2 hw2 hVm2 v0 (by rw [hm2' 3 (by decide)]; omega) (fun m3 hm3 => k_LatticefitLaw_areOutputs_46 (d := 1) hR ?_)
      rw [hm2' 13 (by decide)]
      have hm3' : ∀ c : Nat, c ∉ ao_l → m3 c = μ c := fun c hc => by
        have ne : ∀ k : Nat, k ∈ ao_l → c ≠ k := fun k hk e => hc (e ▸ hk)
        rw [hm3 c (ne 63 (by decide)) (ne 64 (by decide)) (ne 65 (by decide))]; exact hm2' c hc
      have e703 : m3 70 0 = m1 70 0 := by rw [hm3 70 (by decide) (by decide) (by decide)]; exact e702
      exact ⟨fun _ => ⟨by omega, ih m3 _ _ _ (by omega) (by omega) (by omega) hm3' e703⟩, fun q => absurd rfl q⟩
  have o0 := H.1.1.1.2.2.2.2.2.2.1
  exact lp (μ 3 0 13).toNat m1 0 8 _ (by omega) (by omega) (by omega) hm1 rfl
/-- what ticks of the net leaves -/
def tk_P (μ : ma_M) (clk : Int) (V : Int → Int) (m : ma_M) : Prop := (∀ c : Nat, c ≠ 69 → c ≠ 70 → m c = μ c) ∧ ln m ∧ (∀ j : Int, 410 ≤ j → m 69 0 j = μ 69 0 j) ∧ (∀ i : Int, 0 ≤ i → i < μ 3 0 10 → μ 4 0 i = 114 → m 69 0 (10 + 8 * i + 6) = if μ 9 0 i = clk then V (μ 7 0 i) else μ 67 0 i)
theorem ln_69 {μ m : ma_M} (H : ln μ) (n1 : μ 3 0 10 ≤ 24) (hk : ∀ k ∈ ([3, 4, 5, 6, 7, 8, 9, 10, 13] : List Nat), m k = μ k) (h0 : ∀ j : Int, 0 ≤ j → j < 4 → m 69 0 j = μ 69 0 j) (h1 : ∀ i c : Int, 0 ≤ i → i < μ 3 0 10 → 0 ≤ c → c < 8 → c ≠ 6 → m 69 0 (10 + 8 * i + c) = μ 69 0 (10 + 8 * i + c)) (h2 : ∀ j : Int, 0 ≤ j → j < μ 3 0 13 → m 69 0 (400 + j) = μ 69 0 (400 + j)) : ln m := by
  obtain ⟨l0, l1, l2, l3, Ln, Lo⟩ := H
  unfold ln
  rw [hk 3 (by decide), hk 13 (by decide), h0 0 (by decide) (by decide), h0 1 (by decide) (by decide), h0 2 (by decide) (by decide), h0 3 (by decide) (by decide)]
  refine ⟨l0, l1, l2, l3, fun i i0 i1 => ?_, fun j j0 j1 => by rw [h2 j j0 j1]; exact Lo j j0 j1⟩
  have L := Ln i i0 i1
  have z := h1 i 0 i0 i1 (by decide) (by decide) (by decide)
  rw [Int.add_zero] at z
  unfold ln_n at L ⊢
  rw [hk 4 (by decide), hk 5 (by decide), hk 6 (by decide), hk 7 (by decide), hk 8 (by decide), hk 9 (by decide), hk 10 (by decide), z, h1 i 7 i0 i1 (by decide) (by decide) (by decide), h1 i 3 i0 i1 (by decide) (by decide) (by decide), h1 i 4 i0 i1 (by decide) (by decide) (by decide), h1 i 5 i0 i1 (by decide) (by decide) (by decide), h1 i 1 i0 i1 (by decide) (by decide) (by decide), h1 i 2 i0 i1 (by decide) (by decide) (by decide)]
  exact L
theorem tk_O (l : Launch) (hls : l.stackTraces = false) {L : Nat} (hL : L ≤ 260) {μ : ma_M} {a clk : Int} {Post : ma_R → ma_M → Prop} (H : rg μ a) (hn : ns μ) (h : ∀ (m : ma_M) (V : Int → Int), cv_ok μ V (μ 3 0 10) → tk_P μ clk V m → Post (.inl none) m) (hP : ∀ (x : Nat) (m : ma_M), ¬ Post (.inr x) m) : mv_O l L 10 mi_LatticefitLaw_ticks [ma_Rf 69 0, ma_I clk] μ Post := by
  intro G hLS h69
  have bn := H.2.2.2.1
  refine mv_Met l hls G (by omega) (y := mi_LatticefitLaw_ticks) (iv := 144) (kk := 0) (t := mb_LatticefitLaw_ticks) (d := 9) (PV := vP μ) (by decide) (by decide) (by decide) (by decide) (.inl rfl) tk_chk (by decide +kernel) (by decide +kernel) (by decide) rfl (ma_leb rfl) rfl rfl (by decide) (vl_Met l hls G (by omega) h69 (d := 8) (vl_run H hn)) (fun m1 hm R hR => ?_) hP
  obtain ⟨m1c, hV⟩ := hm
  obtain ⟨l0, l1, l2, l3, Ln, Lo⟩ := id H.2.1
  have Hc := H.1.1.1
  have N0 := Hc.1
  show R 4 [ma_Rf 69 0, ma_I clk, ma_U, ma_U, ma_U] [ma_Rf 70 0] 8 m1
  refine s_LatticefitLaw_ticks_4 (d := 7) hR ?_
  refine ma_cnt (σ := ma_M) (N := μ 3 0 10) (P := fun i m => ∀ u : ma_V, R 7 [ma_Rf 69 0, ma_I clk, ma_Rf 70 0, ma_I i, u] [] 8 m) (I := fun n m => (∀ c : Nat, c ≠ 69 → m c = m1 c) ∧ (∀ j : Int, (∀ i : Int, 0 ≤ i → i < n → j ≠ 10 + 8 * i + 6) → m 69 0 j = μ 69 0 j) ∧ (∀ i : Int, 0 ≤ i → i < n → μ 4 0 i = 114 → m 69 0 (10 + 8 * i + 6) = if μ 9 0 i = clk then m1 70 0 (μ 7 0 i) else μ 67 0 i)) ?_ ?_ 0 m1 (by omega) (by omega) ⟨fun _ _ => rfl, fun j _ => by rw [m1c 69 (by decide)], fun i i0 i1 => by omega⟩ _
  · intro n m n0 n1 ⟨a1, a2, a3⟩ ih u
    have nn := Hc.2.2.2.2.2.2.2.2.2.2.2.2.1 n n0 n1
    have L := Ln n n0 n1
    unfold ln_n at L
    have r0 : m 69 0 0 = μ 3 0 10 := by rw [a2 0 (fun i i0 i1 => by omega)]; exact l0
    have rk : m 69 0 (10 + 8 * n) = μ 4 0 n := by rw [a2 _ (fun i i0 i1 => by omega)]; exact L.1
    have rc : ∀ c : Int, 0 ≤ c → c < 8 → m 69 0 (10 + 8 * n + c) = μ 69 0 (10 + 8 * n + c) := fun c c0 c1 => a2 _ (fun i i0 i1 => by omega)
    have nx : ∀ x : Int, (μ 4 0 n = 114 → x = if μ 9 0 n = clk then m1 70 0 (μ 7 0 n) else μ 67 0 n) → R 7 [ma_Rf 69 0, ma_I clk, ma_Rf 70 0, ma_I (n + 1), ma_U] [] 8 (ma_up m 69 0 (10 + 8 * n + 6) x) := by
      intro x hx
      refine ih _ ⟨fun c hc => by rw [ma_up_ck hc]; exact a1 c hc, fun j hj => ?_, fun i i0 i1 hk => ?_⟩ _
      · rw [ma_up_ne (fun z => hj n n0 (by omega) z.2)]; exact a2 j (fun i i0 i1 => hj i i0 (by omega))
      · by_cases e : i = n
        · rw [e, ma_up_eq]; exact hx (by rw [← e]; exact hk)
        · rw [ma_up_ne (by omega)]; exact a3 i i0 (by omega) hk
    refine s_LatticefitLaw_ticks_7 (d := 7) hR ⟨fun q => by omega, fun _ => ?_⟩
    rw [rk, rc 4 (by decide) (by decide), rc 5 (by decide) (by decide), rc 6 (by decide) (by decide), a1 70 (by decide)]
    refine ⟨by omega, by omega, by omega, by omega, fun k1 => ⟨by omega, by omega, nx _ (fun z => absurd z k1)⟩, fun k1 => ?_⟩
    have L2 := L.2.2.1 k1
    have h6 := hn.2 n n0 n1 k1
    have f := nn.2.2.2.1 k1
    rw [L2.2.1, L2.2.2]
    refine ⟨by omega, by omega, fun k2 => ⟨by omega, by omega, nx _ (fun _ => by rw [if_neg k2]; exact h6)⟩, fun k2 => ⟨by omega, by omega, by omega, by omega, by omega, nx _ (fun _ => by rw [if_pos k2])⟩⟩
  · intro m ⟨a1, a2, a3⟩ u
    have r0 : m 69 0 0 = μ 3 0 10 := by rw [a2 0 (fun i i0 i1 => by omega)]; exact l0
    refine s_LatticefitLaw_ticks_7 (d := 7) hR ⟨fun _ => h m (m1 70 0) hV ⟨fun c c1 c2 => by rw [a1 c c1]; exact m1c c c2, ?_, fun j hj => a2 j (fun i i0 i1 => by omega), a3⟩, fun q => by omega⟩
    refine ln_69 H.2.1 bn.2.1 (fun k hk => by rw [a1 k (by rintro rfl; revert hk; decide)]; exact m1c k (by rintro rfl; revert hk; decide)) (fun j j0 j1 => a2 j (fun i i0 i1 => by omega)) (fun i c i0 i1 c0 c1 c2 => a2 _ (fun i' i0' i1' => by omega)) (fun j j0 j1 => a2 _ (fun i i0 i1 => by omega))
