/-! the law's run: its last calls, all refused -/
theorem law_fin {L : Nat} {R : ma_J} (hR : ma_cl (ma_Ox L 10) (L, [], 2, 3000) (ma_at mb_law) (law_D 3000) R) {μ : ma_M} {a : Int} (H : rg μ a) {k : Nat} (hk : k ≤ 2900) (u0 u3 u4 u5 u6 u7 u8 u9 u10 u11 : ma_V) : ma_ct (ma_Ox L 10) (L, [], 2, 3000) 477 [u0, ma_Rf 69 0, ma_Rf 2 0, u3, u4, u5, u6, u7, u8, u9, u10, u11, ma_I 1] [] k mt_law_480 R (law_D 3000) (.inl (some (ma_I 1))) μ := by
  obtain ⟨l0, l1, l2, l3, Ln, Lo⟩ := H.2.1
  have bn := H.2.2.2.1
  have st := H.2.2.1
  refine k_law_477 (d := 1) hR ⟨fun q => absurd q (by decide), fun _ => ⟨by omega, ?_⟩⟩
  rw [l1]
  refine w_LatticefitLaw_setInput (d := 7) ⟨fun q => by omega, fun _ => ⟨fun q => by omega, fun _ => ?_⟩⟩
  refine k_law_488 (d := 1) hR ⟨fun q => absurd rfl q, fun _ => ⟨by omega, sp_tick0 (d := 1) ?_⟩⟩
  refine k_law_498 (d := 1) hR ⟨fun q => absurd rfl q, fun _ => ⟨by omega, ?_⟩⟩
  rw [l3]
  refine sp_cirOut0 (d := 6) (.inr (Int.le_refl _)) ?_
  refine k_law_512 (d := 1) hR ⟨fun q => absurd rfl q, fun _ => ⟨by omega, sp_chOut0 (d := 2) (.inl (by decide)) ?_⟩⟩
  refine k_law_522 (d := 1) hR ⟨fun q => absurd rfl q, fun _ => ⟨by omega, w_LatticefitLaw_chipRegister (d := 7) ⟨fun q => by omega, fun _ => ⟨fun _ => ?_, fun q => by omega⟩⟩⟩⟩
  refine k_law_533 (d := 1) hR ⟨fun q => absurd rfl q, fun _ => ⟨by omega, sp_srcOf0 (d := 4) (.inr (.inl (by decide))) ?_⟩⟩
  refine k_law_545 (d := 1) hR ⟨fun q => absurd rfl q, fun _ => ⟨by omega, sp_srcOf0 (d := 4) (.inr (.inr (.inr (by decide)))) ?_⟩⟩
  refine k_law_556 (d := 1) hR ⟨fun q => absurd rfl q, fun _ => ⟨by omega, w_LatticefitLaw_flip (d := 6) ⟨fun q => by omega, fun _ => ⟨fun _ => ⟨fun q => by omega, fun _ => ⟨fun q => by omega, fun _ => ?_⟩⟩, fun q => by omega⟩⟩⟩⟩
  refine k_law_569 (d := 1) hR ⟨fun q => absurd rfl q, fun _ => ⟨by omega, w_LatticefitLaw_flip (d := 6) ⟨fun q => by omega, fun _ => ⟨fun _ => ⟨fun q => by omega, fun _ => ⟨fun _ => ⟨fun _ => ⟨fun q => by omega, fun _ => ⟨fun q => by omega, fun _ => ⟨fun q => by omega, fun _ => ?_⟩⟩⟩, fun q => by omega⟩, fun q => by omega⟩⟩, fun q => by omega⟩⟩⟩⟩
  refine k_law_582 (d := 1) hR ⟨fun q => absurd rfl q, fun _ => ⟨by omega, w_LatticefitLaw_flip (d := 6) ⟨fun q => by omega, fun _ => ⟨fun q => by omega, fun _ => ?_⟩⟩⟩⟩
  refine k_law_595 (d := 1) hR ⟨fun q => absurd rfl q, fun _ => ⟨by omega, sp_bad0 (d := 6) (.inl (by decide)) ?_⟩⟩
  exact k_law_605 (d := 1) hR ⟨fun q => absurd rfl q, fun _ => ⟨rfl, by show _ ≤ 3000; omega⟩⟩
theorem cvk_congr {μ m : ma_M} {V : Int → Int} (h : ∀ k ∈ ([3, 4, 5, 6, 10, 61, 67] : List Nat), m k = μ k) (H : cv_ok μ V (μ 3 0 10)) : cv_ok m V (m 3 0 10) := by
  unfold cv_ok cv_eq at H ⊢
  rw [h 3 (by decide), h 4 (by decide), h 5 (by decide), h 6 (by decide), h 10 (by decide), h 61 (by decide), h 67 (by decide)]
  exact H
/-- sums of frames -/
theorem sc_b0 {μ : ma_M} {f : Int} (h : ∀ i : Int, 0 ≤ i → i < 36 → μ 60 f i = μ 55 f i) : sc_b μ f = 0 := by
  have fr := fl_len_rng f
  unfold sc_b
  rw [if_pos (ck_sum_cg _ (fun i i0 i1 => h i i0 (by omega)))]
theorem sc_b1 {μ : ma_M} {f : Int} {i : Nat} (hi : i < 6) (h : ∀ j : Int, 0 ≤ j → j < 36 → j ≠ i → μ 60 f j = μ 55 f j) (hn : μ 60 f i ≠ μ 55 f i) (hd : μ 60 f i - μ 55 f i < 65521 ∧ μ 55 f i - μ 60 f i < 65521) : sc_b μ f = 1 := by
  have fr := fl_len_rng f
  unfold sc_b
  have e1 : ck_sum (μ 60 f) (fl_len f).toNat = ck_sum (fun j => if j < 36 then μ 60 f j else 0) (fl_len f).toNat := ck_sum_cg _ (fun j j0 j1 => by show _ = if j < 36 then μ 60 f j else 0; rw [if_pos (by omega)])
  have e2 : ck_sum (μ 55 f) (fl_len f).toNat = ck_sum (fun j => if j < 36 then μ 55 f j else 0) (fl_len f).toNat := ck_sum_cg _ (fun j j0 j1 => by show _ = if j < 36 then μ 55 f j else 0; rw [if_pos (by omega)])
  have ne := ck_flip (w := fun j => if j < 36 then μ 60 f j else 0) (v := fun j => if j < 36 then μ 55 f j else 0) (i := i) (fun j j0 j1 => by
    show (if j < 36 then μ 60 f j else 0) = if j < 36 then μ 55 f j else 0
    by_cases q : j < 36
    · rw [if_pos q, if_pos q]; exact h j j0 q j1
    · rw [if_neg q, if_neg q]) (by
    show (if (i : Int) < 36 then μ 60 f i else 0) ≠ if (i : Int) < 36 then μ 55 f i else 0
    rw [if_pos (by omega), if_pos (by omega)]; exact hn) (by
    show (if (i : Int) < 36 then μ 60 f i else 0) - (if (i : Int) < 36 then μ 55 f i else 0) < 65521 ∧ _
    rw [if_pos (by omega), if_pos (by omega)]; exact hd) (fl_len f).toNat (by omega)
  rw [e1, e2, if_neg ne]
theorem sc_sum1 {μ : ma_M} {f : Int} (f0 : 0 ≤ f) (f1 : f < 14) (h1 : sc_b μ f = 1) (h0 : ∀ g : Int, 0 ≤ g → g < 14 → g ≠ f → sc_b μ g = 0) : ma_sum (sc_b μ) 14 = 1 := by
  rw [ma_sum_cong (f := sc_b μ) (g := fun c => if f = c then 1 else 0) 14 (fun c c0 c1 => ?_), ma_sum_single, if_pos ⟨f0, by omega⟩]
  show sc_b μ c = if f = c then 1 else 0
  by_cases e : f = c
  · rw [if_pos e, ← e]; exact h1
  · rw [if_neg e]; exact h0 c c0 (by omega) (fun z => e z.symm)
theorem sc_sum0 {μ : ma_M} (h0 : ∀ g : Int, 0 ≤ g → g < 14 → sc_b μ g = 0) : ma_sum (sc_b μ) 14 = 0 := by
  rw [ma_sum_cong (f := sc_b μ) (g := fun _ => 0) 14 (fun c c0 c1 => h0 c c0 (by omega)), ma_sum_zero]
/-- behind the fourteen deeds: the flipped bit -/
theorem law_flip {l : Launch} {L : Nat} {R : ma_J} (hR : ma_cl (ma_Ox L 10) (L, [], 2, 3000) (ma_at mb_law) (law_D 3000) R) (hls : l.stackTraces = false) (hL : L ≤ 260) (hC : mv_cl (mv_O l L 10) 3000 law_sites R) {μ : ma_M} {a : Int} (H : rg μ a) (hn : ns μ) (hw : fr_w μ (μ 60)) {k : Nat} (hk : k ≤ 2000) {f idx bit : Int} (f0 : 0 ≤ f) (f1 : f < 14) (i0 : 0 ≤ idx) (i1 : idx < 6) (b0 : 0 ≤ bit) (b1 : bit < 12) (u3 u4 u5 u6 u7 u10 u11 u12 : ma_V) : ma_Ox L 10 mi_LatticefitLaw_wordAt [ma_Rf 2 0, ma_I f, ma_I idx] μ (ma_ct (ma_Ox L 10) (L, [], 2, 3000) 387 [ma_Rf 0 0, ma_Rf 69 0, ma_Rf 2 0, ma_U, ma_U, ma_U, ma_U, ma_U, ma_I f, ma_I idx, ma_I bit, ma_U, ma_U] [] k mt_law_390 R (law_D 3000)) := by
  have bn := H.2.2.2.1
  have st := H.2.2.1
  have hw55 := H.2.2.2.2.1
  have HB := rt_bd H.1
  have F : ∀ f i : Int, 0 ≤ f → f < 14 → 0 ≤ i → i < 36 → 0 ≤ μ 55 f i ∧ μ 55 f i ≤ 65535 := fun f i f0 f1 i0 i1 => fr_rng HB hw55 f0 f1 i0 i1
  have K : ∀ f i : Int, 0 ≤ f → f < 14 → 0 ≤ i → i < 36 → μ 60 f i = μ 55 f i := fun f i f0 f1 i0 i1 => by rw [hw f i f0 f1 i0 i1, hw55 f i f0 f1 i0 i1]
  have e56 := K f idx f0 f1 i0 (by omega)
  have step1 : ma_ct (ma_Ox L 10) (L, [], 2, 3000) 387 [ma_Rf 0 0, ma_Rf 69 0, ma_Rf 2 0, ma_U, ma_U, ma_U, ma_U, ma_U, ma_I f, ma_I idx, ma_I bit, ma_U, ma_U] [] k mt_law_390 R (law_D 3000) (.inl (some (ma_I (μ 55 f idx)))) μ := by
    refine k_law_387 (d := 1) hR ⟨by omega, ?_⟩
    -- the flip
    have step2 : ma_ct (ma_Ox L 10) (L, [], 2, 3000) 399 [ma_Rf 0 0, ma_Rf 69 0, ma_Rf 2 0, ma_U, ma_U, ma_U, ma_U, ma_U, ma_I f, ma_I idx, ma_I bit, ma_I (μ 55 f idx), ma_U] [] (k + 3) mt_law_402 R (law_D 3000) (.inl (some (ma_I ((ma_up μ 60 f idx (ma_xor (μ 60 f idx) (ma_shl 1 bit))) 60 f idx)))) (ma_up μ 60 f idx (ma_xor (μ 60 f idx) (ma_shl 1 bit))) := by
      have xr := fl_rng (x := μ 60 f idx) (k := bit) (by rw [e56]; exact F f idx f0 f1 i0 (by omega)) b0 (by omega)
      have xv : μ 60 f idx ≠ ma_xor (μ 60 f idx) (ma_shl 1 bit) ∧ ma_xor (μ 60 f idx) (ma_shl 1 bit) - μ 60 f idx < 65521 ∧ μ 60 f idx - ma_xor (μ 60 f idx) (ma_shl 1 bit) < 65521 := by
        have r := F f idx f0 f1 i0 (by omega)
        rw [← e56] at r
        obtain ⟨v, ev⟩ : ∃ v : Nat, μ 60 f idx = (v : Int) := ⟨(μ 60 f idx).toNat, by omega⟩
        obtain ⟨bb, eb⟩ : ∃ bb : Nat, bit = (bb : Int) := ⟨bit.toNat, by omega⟩
        rw [ev] at r ⊢
        have hp : 2 ^ bb < 2 ^ 12 := Nat.pow_lt_pow_right (by decide) (by omega)
        have d := fl_dif (v := v) (b := bb) (by omega)
        rw [eb, ma_shl_one (by omega) (by omega), Int.toNat_natCast, ma_xor_nat _ _ (by omega) (by omega)]
        omega
      obtain ⟨M, hM⟩ : ∃ M, M = ma_up μ 60 f idx (ma_xor (μ 60 f idx) (ma_shl 1 bit)) := ⟨_, rfl⟩
      rw [← hM]
      have Mk : ∀ c : Nat, c ≠ 60 → M c = μ c := fun c hc => by rw [hM, ma_up_ck hc]
      have Ml : ∀ (l : List Nat), (∀ c ∈ l, c ≠ 60) → ∀ c ∈ l, M c = μ c := fun l hl c hc => Mk c (hl c hc)
      have M60 : M 60 f idx = ma_xor (μ 60 f idx) (ma_shl 1 bit) := by rw [hM, ma_up_eq]
      have M60n : ∀ g i : Int, ¬ (g = f ∧ i = idx) → M 60 g i = μ 60 g i := fun g i q => by rw [hM, ma_up_ne q]
      have M55 : M 55 = μ 55 := Mk 55 (by decide)
      have HM : rg M a := rg_congr (Ml _ (by decide)) H
      have nM : ns M := ns_congr (Ml _ (by decide)) hn
      have stM := HM.2.2.1
      have KM : ∀ g i : Int, 0 ≤ g → g < 14 → 0 ≤ i → i < 36 → 0 ≤ M 60 g i ∧ M 60 g i ≤ 65535 := fun g i g0 g1 j0 j1 => by
        by_cases q : g = f ∧ i = idx
        · rw [q.1, q.2, M60]; exact xr
        · rw [M60n g i q, K g i g0 g1 j0 j1]; exact F g i g0 g1 j0 j1
      have FM : ∀ g i : Int, 0 ≤ g → g < 14 → 0 ≤ i → i < 36 → 0 ≤ M 55 g i ∧ M 55 g i ≤ 65535 := fun g i g0 g1 j0 j1 => by rw [M55]; exact F g i g0 g1 j0 j1
      have bf : sc_b M f = 1 := by
        refine sc_b1 (i := idx.toNat) (by omega) (fun j j0 j1 jn => ?_) ?_ ?_
        · rw [M60n f j (fun z => by omega), M55]; exact K f j f0 f1 j0 j1
        · rw [show ((idx.toNat : Nat) : Int) = idx from by omega, M60, M55, ← e56]; exact fun z => xv.1 z.symm
        · rw [show ((idx.toNat : Nat) : Int) = idx from by omega, M60, M55, ← e56]; exact xv.2
      have bg : ∀ g : Int, 0 ≤ g → g < 14 → g ≠ f → sc_b M g = 0 := fun g g0 g1 ne => sc_b0 (fun j j0 j1 => by rw [M60n g j (fun z => ne z.1), M55]; exact K g j g0 g1 j0 j1)
      refine k_law_399 (d := 1) hR ⟨fun q => absurd (by rw [M60, e56]) q, fun _ => ⟨by omega, ?_⟩⟩
      refine sp_bad (d := 6) (by omega) f0 f1 KM FM ?_
      rw [bf]
      refine k_law_415 (d := 1) hR ⟨fun q => absurd rfl q, fun _ => ?_⟩
      refine hC 425 196 mi_LatticefitLaw_areOutputs [ma_Rf 2 0, ma_Rf 69 0, ma_I 0] [] _ _ _ _ (by decide) rfl rfl rfl (by decide) (by show _ + 40 ≤ 3000; omega) (ao_O l hls hL HM nM (.inl rfl) (fun m hm => ?_) (fun _ _ z => z))
      show R 428 _ [ma_I 1] _ m
      have ml : ∀ (l : List Nat), (∀ c ∈ l, c ∉ ao_l) → ∀ c ∈ l, m c = M c := fun l hl c hc => hm c (hl c hc)
      have Hm : rg m a := rg_congr (ml _ (by decide)) HM
      have nm : ns m := ns_congr (ml _ (by decide)) nM
      have m60 : m 60 = M 60 := hm 60 (by decide)
      have m55 : m 55 = μ 55 := (hm 55 (by decide)).trans M55
      have scm : sc_b m = sc_b M := by funext c; unfold sc_b; rw [m60, m55, M55]
      refine s_law_428 (d := 1) hR ⟨fun q => absurd q (by decide), fun _ => ⟨by show _ + 40 + 1 ≤ 3000; omega, ?_⟩⟩
      refine sp_scrubL (d := 6) (by have := Hm.2.2.1; omega) (by rw [m60]; exact KM) (by rw [m55]; exact F) (fun m2 x1 x2 => ?_)
      rw [scm, sc_sum1 f0 f1 bf bg]
      have q60 : ∀ g i : Int, 0 ≤ g → g < 14 → 0 ≤ i → i < 36 → m2 60 g i = μ 55 g i := fun g i g0 g1 j0 j1 => by
        rw [x2 g i g0 g1 j0 j1]
        unfold sc_w
        by_cases e : g = f
        · have := bf
          rw [← e, ← scm] at this
          unfold sc_b at this
          by_cases q : ck_sum (m 60 g) (fl_len g).toNat = ck_sum (m 55 g) (fl_len g).toNat
          · rw [if_pos q] at this; exact absurd this (by decide)
          · rw [if_neg q, m55]
        · by_cases q : ck_sum (m 60 g) (fl_len g).toNat = ck_sum (m 55 g) (fl_len g).toNat
          · rw [if_pos q, m60, M60n g i (fun z => e z.1)]; exact K g i g0 g1 j0 j1
          · rw [if_neg q, m55]
      have x1l : ∀ (l : List Nat), (∀ c ∈ l, c ≠ 60) → ∀ c ∈ l, m2 c = m c := fun l hl c hc => x1 c (hl c hc)
      have H2 : rg m2 a := rg_congr (x1l _ (by decide)) Hm
      have n2 : ns m2 := ns_congr (x1l _ (by decide)) nm
      have q55 : m2 55 = μ 55 := (x1 55 (by decide)).trans m55
      have z2 : ∀ g : Int, 0 ≤ g → g < 14 → sc_b m2 g = 0 := fun g g0 g1 => sc_b0 (fun j j0 j1 => by rw [q60 g j g0 g1 j0 j1, q55])
      have K2 : ∀ g i : Int, 0 ≤ g → g < 14 → 0 ≤ i → i < 36 → 0 ≤ m2 60 g i ∧ m2 60 g i ≤ 65535 := fun g i g0 g1 j0 j1 => by rw [q60 g i g0 g1 j0 j1]; exact F g i g0 g1 j0 j1
      have F2 : ∀ g i : Int, 0 ≤ g → g < 14 → 0 ≤ i → i < 36 → 0 ≤ m2 55 g i ∧ m2 55 g i ≤ 65535 := fun g i g0 g1 j0 j1 => by rw [q55]; exact F g i g0 g1 j0 j1
      refine k_law_432 (d := 1) hR ⟨fun q => absurd rfl q, fun _ => ⟨by show _ + 40 + 1 + 2 ≤ 3000; omega, ?_⟩⟩
      refine sp_bad (d := 6) (by have := H2.2.2.1; omega) f0 f1 K2 F2 ?_
      rw [z2 f f0 f1]
      refine k_law_442 (d := 1) hR ⟨fun q => absurd rfl q, fun _ => ⟨by show _ + 40 + 1 + 2 + 1 ≤ 3000; omega, ?_⟩⟩
      refine sp_scrubL (d := 6) (by have := H2.2.2.1; omega) K2 F2 (fun m3 y1 y2 => ?_)
      rw [sc_sum0 z2]
      have y1l : ∀ (l : List Nat), (∀ c ∈ l, c ≠ 60) → ∀ c ∈ l, m3 c = m2 c := fun l hl c hc => y1 c (hl c hc)
      have H3 : rg m3 a := rg_congr (y1l _ (by decide)) H2
      have n3 : ns m3 := ns_congr (y1l _ (by decide)) n2
      have w3 : fr_w m3 (m3 60) := fun g i g0 g1 j0 j1 => by
        have h55 := H3.2.2.2.2.1 g i g0 g1 j0 j1
        rw [← h55, y1 55 (by decide), q55, y2 g i g0 g1 j0 j1]
        unfold sc_w
        split
        · exact q60 g i g0 g1 j0 j1
        · rw [q55]
      refine k_law_449 (d := 1) hR ⟨fun q => absurd rfl q, fun _ => ?_⟩
      refine hC 458 196 mi_LatticefitLaw_areOutputs [ma_Rf 2 0, ma_Rf 69 0, ma_I 1] [] _ _ _ _ (by decide) rfl rfl rfl (by decide) (by show _ + 40 + 1 + 2 + 1 + 40 ≤ 3000; omega) (ao_O l hls hL H3 n3 (.inr ⟨rfl, w3⟩) (fun m4 hm4 => ?_) (fun _ _ z => z))
      show R 461 _ [ma_I 1] _ m4
      have H4 : rg m4 a := rg_congr (fun c hc => hm4 c (by revert hc; revert c; decide)) H3
      refine s_law_461 (d := 1) hR ⟨fun q => absurd q (by decide), fun _ => ⟨by show _ + 40 + 1 + 2 + 1 + 40 ≤ 3000; omega, ?_⟩⟩
      exact sp_cons (d := 7) H4.1 (by have := H4.2.2.1; omega) (law_fin hR H4 (by show _ + 40 + 1 + 2 + 1 + 40 ≤ 2900; omega) _ _ _ _ _ _ _ _ _ _)
    refine w_LatticefitLaw_flip (d := 6) ?_
    clear bn HB F K hw hw55 hn hC
    repeat' (first | with_reducible refine And.intro ?_ ?_ | intro _)
    all_goals first | omega | exact step2
  refine w_LatticefitLaw_wordAt (d := 6) ?_
  clear bn HB F K hw hw55 hn hC
  repeat' (first | with_reducible refine And.intro ?_ ?_ | intro _)
  all_goals first | omega | exact step1
