/-! tick -/
theorem pr_tick {LS d : Nat} {μ : ma_M} (H : Rel μ) {v1 : Int} : Pr LS d mi_LatticefitLaw_tick [ma_Rf 2 0, ma_I v1, ma_Rf 111 0] mi_LatticefitModel_tick [ma_Rf 69 0, ma_I v1] agL μ := by
  intro Post hP
  obtain ⟨Hc, Hs, Hz, Hu, Hm, Hr, Hf, Hk⟩ := id H
  have s29 := Hs.2.2.2.2.2
  have T1 := Rel_thrown H 1
  have T2 := Rel_thrown (Rel_thrown H 0) 2
  have HC := Hc
  obtain ⟨N0, N1, I0, I1, R0, R1, O0, O1, n8, n9, n10, n11, hn, _, hr, _, hrj, hoo⟩ := HC
  refine gi_LatticefitLaw_tick (fun R hR => s_LatticefitLaw_tick_0 (d := d + 3) hR ?_)
  refine gi_Latticefit_tick (fun R2 hR2 => s_Latticefit_tick_0 (d := d + 3) hR2 ?_)
  have L1 : (v1 < 0 ∨ 3 ≤ v1) → ma_ct (ma_Ox LS (d + 3 + 8)) (LS, [(0, 8, 11, 1), (0, 8, 14, 0)], 1, 2) 4 [ma_Rf 2 0, ma_I v1, ma_Rf 111 0, ma_U] [ma_I 0, ma_Rf 111 0] 2 mt_LatticefitLaw_tick_7 R (ma_DD (LS, [(0, 8, 11, 1), (0, 8, 14, 0)], 1, 2) Post) (.inr 1) μ := by
    intro hc
    show R 11 [ma_Rf 2 0, ma_I v1, ma_Rf 111 0, ma_U] [ma_X 1] 2 μ
    refine g_LatticefitLaw_tick_11 hR ⟨Nat.le_refl 2, hP 1 μ (fun Post2 h2 => ?_)⟩
    have fin := h2 (ma_L 0) _ T1 ma_up_eq (fun z => by omega)
    exact gi_LatticefitModel_tick (fun R3 hR3 => s_LatticefitModel_tick_0 (d := d + 7) hR3 ⟨fun _ => fin, fun _ => ⟨fun _ => fin, fun _ => by omega⟩⟩)
  refine ⟨fun a => L1 (.inl a), fun a => ⟨fun b => ⟨fun st => ?_, fun st => ?_⟩, fun b => L1 (.inr b)⟩⟩
  · have K := Hk st
    have ci := ch_in_of H K
    refine sp_runTick (d := d + 7) Hc (cv_in_of K) (fun m1 v a1 a2 a3 => k_Latticefit_tick_34 hR2 ?_)
    have a60 : m1 60 = μ 60 := a1 60 (by decide) (by decide)
    have a61 : m1 61 = μ 61 := a1 61 (by decide) (by decide)
    have a62 : m1 62 = μ 62 := a1 62 (by decide) (by decide)
    have a57 : m1 57 = μ 57 := a1 57 (by decide) (by decide)
    refine sp_chipTick (d := d + 3) (fun f i f0 f1 i0 i1 => by rw [a60]; exact (K.1 f i f0 f1 i0 i1).2) (fun m2 c1 c2 c3 => k_Latticefit_tick_42 hR2 (k_LatticefitLaw_tick_4 hR ⟨by omega, hP 0 _ (fun Post2 h2 => ?_)⟩))
    rw [a60, a61, a62] at c2
    rw [a57] at c3
    rw [c3]
    have b1 : ∀ c : Nat, c ≠ 57 → c ≠ 62 → c ≠ 63 → c ≠ 64 → c ≠ 65 → c ≠ 67 → c ≠ 68 → c ≠ 111 → (ma_up m2 111 0 0 (ma_wL (μ 57 0 3 + 1))) c = μ c := fun c k1 k2 k3 k4 k5 k6 k7 k8 => by rw [ma_up_ck k8, c1 c k1 k2 k3 k4 k5]; exact a1 c k6 k7
    have b57 : (ma_up m2 111 0 0 (ma_wL (μ 57 0 3 + 1))) 57 0 3 = ma_wL (μ 57 0 3 + 1) := by rw [ma_up_ck (by decide)]; exact c3
    have b62 : ∀ c : Int, 0 ≤ c → c < 36 → (ma_up m2 111 0 0 (ma_wL (μ 57 0 3 + 1))) 62 0 c = ch_tk (μ 60) (μ 62 0) (ch_T (μ 60) (μ 61 0) (μ 62 0) 40) v1 c := fun c c0 c1 => by rw [ma_up_ck (by decide)]; exact c2 c c0 c1
    have b67 : ∀ i : Int, 0 ≤ i → i < μ 3 0 10 → μ 4 0 i = 114 → (ma_up m2 111 0 0 (ma_wL (μ 57 0 3 + 1))) 67 0 i = if μ 9 0 i = v1 then v (μ 7 0 i) else μ 67 0 i := fun i i0 i1 k => by rw [ma_up_ck (by decide), c1 67 (by decide) (by decide) (by decide) (by decide) (by decide)]; exact a3 i i0 i1 k
    have b111 : (ma_up m2 111 0 0 (ma_wL (μ 57 0 3 + 1))) 111 0 0 = ma_wL (μ 57 0 3 + 1) := ma_up_eq
    generalize ma_up m2 111 0 0 (ma_wL (μ 57 0 3 + 1)) = M at b1 b57 b62 b67 b111 ⊢
    clear c1 c2 c3 a1 a3 a60 a61 a62 a57
    have M69 : M 69 = μ 69 := b1 69 (by decide) (by decide) (by decide) (by decide) (by decide) (by decide) (by decide) (by decide)
    have n50 : ∀ f : Int, f ≠ 50 → (ma_up (ma_up M 69 0 50 0) 69 0 50 0) 69 0 f = μ 69 0 f := fun f hf => by rw [ma_up_ne (by omega), ma_up_ne (by omega), M69]
    have q50 : (ma_up (ma_up M 69 0 50 0) 69 0 50 0) 69 0 50 = 0 := ma_up_eq
    have em : ∀ c : Nat, c ≠ 69 → (ma_up (ma_up M 69 0 50 0) 69 0 50 0) c = M c := fun c hc => by rw [ma_up_ck hc, ma_up_ck hc]
    refine gi_LatticefitModel_tick (fun R3 hR3 => s_LatticefitModel_tick_0 (d := d + 7) hR3 ⟨fun _ => by omega, fun _ => ⟨fun _ => by omega, fun _ => ⟨fun _ => ?_, fun q => by rw [M69, s29, if_pos st] at q; omega⟩⟩⟩)
    generalize ma_up (ma_up M 69 0 50 0) 69 0 50 0 = A at n50 q50 em ⊢
    refine sp_runs (d := d + 9) (μ := μ) (fun c k1 k2 => by rw [em c (by omega)]; exact b1 c (by omega) (by omega) (by omega) (by omega) (by omega) (by omega) (by omega) (by omega)) (n50 8 (by decide)) Hc K (fun B d1 d2 => k_LatticefitModel_tick_45 hR3 ?_)
    have ciB : ch_in B (μ 60) (μ 61 0) (μ 62 0) := ch_in_cg (fun c hc => by rw [d1 c (by omega), em c (by omega)]; exact b1 c (by omega) (by omega) (by omega) (by omega) (by omega) (by omega) (by omega) (by omega)) (by rw [d1 69 (by decide)]; exact n50 9 (by decide)) ci
    refine sp_settles (d := d + 7) ciB (by rw [d1 69 (by decide), n50 46 (by decide), n50 47 (by decide)]; exact Hz.2.2.2.2.1) (fun C k k' e1 hK e46 e47 e2 => k_LatticefitModel_tick_49 hR3 ?_)
    have cm : ∀ c : Nat, c ≠ 69 → c ≠ 106 → c ≠ 107 → c ≠ 108 → C c = M c := fun c k1 k2 k3 k4 => by rw [e1.1 c k1 k3 k4, d1 c k2]; exact em c k1
    have cu : ∀ c : Nat, c ≠ 57 → c ≠ 62 → c ≠ 63 → c ≠ 64 → c ≠ 65 → c ≠ 67 → c ≠ 68 → c ≠ 69 → c ≠ 106 → c ≠ 107 → c ≠ 108 → c ≠ 111 → C c = μ c := fun c k1 k2 k3 k4 k5 k6 k7 k8 k9 k10 k11 k12 => by rw [cm c k8 k9 k10 k11]; exact b1 c k1 k2 k3 k4 k5 k6 k7 k12
    have c69 : ∀ f : Int, f ≠ 46 → f ≠ 47 → f ≠ 50 → C 69 0 f = μ 69 0 f := fun f f1 f2 f3 => by rw [e1.2 f f1 f2, d1 69 (by decide)]; exact n50 f f3
    have c50 : C 69 0 50 = 0 := by rw [e1.2 50 (by decide) (by decide), d1 69 (by decide)]; exact q50
    have c106 : ∀ n : Int, 0 ≤ n → n < μ 3 0 10 → C 106 0 n = v n ∧ (v n = 0 ∨ v n = 1) := fun n x0 x1 => by
      rw [e1.1 106 (by decide) (by decide) (by decide)]
      have := cv_uniq Hc d2 a2 n.toNat (by omega)
      rw [show ((n.toNat : Nat) : Int) = n from by omega] at this
      exact ⟨this, (a2 n x0 x1).1⟩
    have hk : ch_kk k := by rcases hK with z | z; exact .inl z.1; exact .inr z.1
    clear e1 d1 d2 em n50 q50 ciB
    -- the cells
    have l117 : ∀ W : ma_M, (∀ c : Nat, c ≠ 103 → W c = C c) → (∀ i : Int, 0 ≤ i → i < μ 3 0 10 → W 103 0 i = if μ 4 0 i = 114 ∧ μ 9 0 i = v1 then v (μ 7 0 i) else μ 103 0 i) → ∀ u : ma_V, R3 117 [ma_Rf 69 0, ma_I v1, ma_I 0, u] [] 0 W := by
      intro W0 w1 w2 u
      refine ma_cnt (σ := ma_M) (N := 36) (P := fun i W => ∀ u : ma_V, R3 117 [ma_Rf 69 0, ma_I v1, ma_I i, u] [] 0 W) (I := fun i W => (∀ c : Nat, c ≠ 104 → W c = W0 c) ∧ (∀ c : Int, 0 ≤ c → c < i → W 104 0 c = ch_tk (μ 60) (μ 62 0) (ch_T (μ 60) (μ 61 0) (μ 62 0) 40) v1 c) ∧ (∀ c : Int, i ≤ c → c < 36 → W 104 0 c = μ 62 0 c)) ?_ ?_ 0 W0 (by omega) (by omega) ⟨fun _ _ => rfl, fun j a b => by omega, fun c x0 x1 => ?_⟩ _
      · intro c W c0 c1 ⟨y1, y2, y3⟩ ih u
        have F := K.1 (c / 6) (6 * (c % 6) + 5) (by omega) (by omega) (by omega) (by omega)
        have o := y3 c (by omega) c1
        have r01 := (K.2.2.1 c c0 c1).2
        have W102 : W 102 = μ 102 := by rw [y1 102 (by decide), w1 102 (by decide)]; exact cu 102 (by decide) (by decide) (by decide) (by decide) (by decide) (by decide) (by decide) (by decide) (by decide) (by decide) (by decide) (by decide)
        have W69 : W 69 = C 69 := by rw [y1 69 (by decide), w1 69 (by decide)]
        have Wk : W k 0 c = ch_T (μ 60) (μ 61 0) (μ 62 0) 40 c := by
          rw [y1 k (by rcases hk with z | z <;> omega), w1 k (by rcases hk with z | z <;> omega)]; exact e2 c c0 c1
        have t01 := ch_T_01 (w := μ 60) (g := μ 61 0) (r := μ 62 0) 40 c
        have nx : ∀ x : Int, x = ch_tk (μ 60) (μ 62 0) (ch_T (μ 60) (μ 61 0) (μ 62 0) 40) v1 c → R3 117 [ma_Rf 69 0, ma_I v1, ma_I (c + 1), ma_U] [] 0 (ma_up W 104 0 c x) := by
          intro x hx
          refine ih _ ⟨fun c hc => by rw [ma_up_ck hc]; exact y1 c hc, fun j j0 j1 => ?_, fun j j0 j1 => ?_⟩ _
          · by_cases f : j = c
            · rw [f, ma_up_eq, hx]
            · rw [ma_up_ne (by omega)]; exact y2 j j0 (by omega)
          · rw [ma_up_ne (by omega)]; exact y3 j (by omega) j1
        unfold ch_tk at nx
        refine s_LatticefitModel_tick_117 hR3 ⟨fun q => by omega, fun _ => ?_⟩
        rw [W69, e46, Int.toNat_natCast, td_nn c0, tm_nn c0, W102, show 36 * (c / 6) + 6 * (c % 6) + 5 = 36 * (c / 6) + (6 * (c % 6) + 5) from by omega, F.1, Wk, o]
        generalize μ 60 (c / 6) (6 * (c % 6) + 5) = y at F nx ⊢
        rw [td_nn (a := y) F.2.1, tm_nn (a := y) F.2.1, tm_nn (a := y / 4) (by have := F.2.1; omega)]
        have F2 := F.2
        clear F
        refine ⟨by omega, by omega, by omega, by omega, by omega, by omega, fun p => ⟨by omega, r01, by omega, nx _ ?_⟩, fun p => ⟨by omega, fun q => ⟨by omega, r01, by omega, nx _ ?_⟩, fun q => ⟨ch_kin hk c0 c1, ch_kck hk, by omega, t01, by omega, nx _ ?_⟩⟩⟩
        · rw [if_neg (by omega)]
        · rw [if_neg (fun z => q z.2)]
        · rw [if_pos ⟨by omega, q⟩]
      · intro W ⟨y1, y2, y3⟩ u
        refine s_LatticefitModel_tick_117 hR3 ⟨fun _ => ?_, fun q => by omega⟩
        have W69 : W 69 = C 69 := by rw [y1 69 (by decide), w1 69 (by decide)]
        have e49 : W 69 0 49 = μ 57 0 3 := by rw [W69, c69 49 (by decide) (by decide) (by decide)]; exact K.2.2.2.2
        rw [e49]
        have zf : ∀ f : Int, f ≠ 49 → (ma_up W 69 0 49 (ma_wL (μ 57 0 3 + 1))) 69 0 f = C 69 0 f := fun f hf => by rw [ma_up_ne (by omega), W69]
        have z49 : (ma_up W 69 0 49 (ma_wL (μ 57 0 3 + 1))) 69 0 49 = ma_wL (μ 57 0 3 + 1) := ma_up_eq
        have zc : ∀ c : Nat, c ≠ 69 → c ≠ 103 → c ≠ 104 → (ma_up W 69 0 49 (ma_wL (μ 57 0 3 + 1))) c = C c := fun c k1 k2 k3 => by rw [ma_up_ck k1, y1 c k3, w1 c k2]
        have z103 : ∀ i : Int, 0 ≤ i → i < μ 3 0 10 → (ma_up W 69 0 49 (ma_wL (μ 57 0 3 + 1))) 103 0 i = if μ 4 0 i = 114 ∧ μ 9 0 i = v1 then v (μ 7 0 i) else μ 103 0 i := fun i i0 i1 => by rw [ma_up_ck (by decide), y1 103 (by decide)]; exact w2 i i0 i1
        have z104 : ∀ c : Int, 0 ≤ c → c < 36 → (ma_up W 69 0 49 (ma_wL (μ 57 0 3 + 1))) 104 0 c = ch_tk (μ 60) (μ 62 0) (ch_T (μ 60) (μ 61 0) (μ 62 0) 40) v1 c := fun c c0 c1 => by rw [ma_up_ck (by decide)]; exact y2 c c0 c1
        generalize ma_up W 69 0 49 (ma_wL (μ 57 0 3 + 1)) = Z at zf z49 zc z103 z104 ⊢
        have ZM : ∀ c : Nat, c ≠ 69 → c ≠ 103 → c ≠ 104 → c ≠ 106 → c ≠ 107 → c ≠ 108 → Z c = M c := fun c k1 k2 k3 k4 k5 k6 => by rw [zc c k1 k2 k3]; exact cm c k1 k4 k5 k6
        refine h2 _ Z (Rel_k H (fun c k1 k2 k3 k4 k5 k6 k7 k8 k9 k10 k11 k12 k13 k14 k15 k16 k17 k18 k19 k20 => ?_) (fun f f1 f2 f3 f4 => ?_) ?_ (fun _ => ?_)) ?_ (fun _ => ⟨_, rfl, ?_⟩)
        · rw [ZM c k10 k12 k13 k15 k16 k17]; exact b1 c k1 k4 k5 k6 k7 k8 k9 k19
        · rw [zf f f3]; exact c69 f f1 f2 f4
        · rw [zf 46 (by decide), zf 47 (by decide), e46, e47]; omega
        · have Zμ : ∀ c : Nat, c = 3 ∨ c = 4 ∨ c = 60 ∨ c = 61 ∨ c = 102 ∨ c = 105 → Z c = μ c := fun c hc => by
            rw [ZM c (by omega) (by omega) (by omega) (by omega) (by omega) (by omega)]; exact b1 c (by omega) (by omega) (by omega) (by omega) (by omega) (by omega) (by omega) (by omega)
          unfold rl_k
          rw [Zμ 3 (by decide), Zμ 4 (by decide), Zμ 60 (by decide), Zμ 61 (by decide), Zμ 102 (by decide), Zμ 105 (by decide), ZM 62 (by decide) (by decide) (by decide) (by decide) (by decide) (by decide), ZM 67 (by decide) (by decide) (by decide) (by decide) (by decide) (by decide), ZM 57 (by decide) (by decide) (by decide) (by decide) (by decide) (by decide), z49, b57]
          refine ⟨K.1, K.2.1, fun c c0 c1 => ?_, fun i i0 i1 => ?_, rfl⟩
          · rw [z104 c c0 c1, b62 c c0 c1]
            refine ⟨rfl, ?_⟩
            unfold ch_tk
            split
            · exact ch_T_01 40 c
            · exact (K.2.2.1 c c0 c1).2
          · rw [z103 i i0 i1]
            have kk := K.2.2.2.1 i i0 i1
            by_cases p : μ 4 0 i = 114
            · have nn := (hn i i0 i1).2.2.2.1 p
              rw [b67 i i0 i1 p]
              by_cases q : μ 9 0 i = v1
              · rw [if_pos ⟨p, q⟩, if_pos q]
                have := (c106 (μ 7 0 i) nn.2.1 nn.2.2.1).2
                exact ⟨this, fun _ => ⟨rfl, this⟩⟩
              · rw [if_neg (fun z => q z.2), if_neg q]; exact kk
            · rw [if_neg (fun z => p z.1)]; exact ⟨kk.1, fun z => absurd z p⟩
        · rw [zf 50 (by decide)]; exact c50
        · rw [ZM 111 (by decide) (by decide) (by decide) (by decide) (by decide) (by decide)]; exact b111
      · show W0 104 0 c = _
        rw [w1 104 (by decide), cu 104 (by decide) (by decide) (by decide) (by decide) (by decide) (by decide) (by decide) (by decide) (by decide) (by decide) (by decide) (by decide)]
        exact (K.2.2.1 c x0 x1).1
    -- the circuit's registers
    refine ma_cnt (σ := ma_M) (N := μ 3 0 10) (P := fun i W => ∀ u : ma_V, R3 54 [ma_Rf 69 0, ma_I v1, ma_I i, u] [] 0 W) (I := fun n W => (∀ c : Nat, c ≠ 103 → W c = C c) ∧ (∀ i : Int, 0 ≤ i → i < n → W 103 0 i = if μ 4 0 i = 114 ∧ μ 9 0 i = v1 then v (μ 7 0 i) else μ 103 0 i) ∧ (∀ i : Int, n ≤ i → i < μ 3 0 10 → W 103 0 i = μ 103 0 i)) ?_ ?_ 0 C (by omega) (by omega) ⟨fun _ _ => rfl, fun j a b => by omega, fun i _ _ => by rw [cu 103 (by decide) (by decide) (by decide) (by decide) (by decide) (by decide) (by decide) (by decide) (by decide) (by decide) (by decide) (by decide)]⟩ _
    · intro i W i0 i1 ⟨y1, y2, y3⟩ ih u
      have o := y3 i (by omega) i1
      have o01 := (K.2.2.2.1 i i0 i1).1
      have ni := hn i i0 i1
      have Wu : ∀ c : Nat, c = 70 ∨ c = 73 ∨ c = 74 → W c = μ c := fun c hc => by
        rw [y1 c (by omega)]; exact cu c (by omega) (by omega) (by omega) (by omega) (by omega) (by omega) (by omega) (by omega) (by omega) (by omega) (by omega) (by omega)
      have nx : ∀ x : Int, (x = if μ 4 0 i = 114 ∧ μ 9 0 i = v1 then v (μ 7 0 i) else μ 103 0 i) → R3 54 [ma_Rf 69 0, ma_I v1, ma_I (i + 1), ma_U] [] 0 (ma_up W 103 0 i x) := by
        intro x hx
        refine ih _ ⟨fun c hc => by rw [ma_up_ck hc]; exact y1 c hc, fun j j0 j1 => ?_, fun j j0 j1 => ?_⟩ _
        · by_cases f : j = i
          · rw [f, ma_up_eq, hx]
          · rw [ma_up_ne (by omega)]; exact y2 j j0 (by omega)
        · rw [ma_up_ne (by omega)]; exact y3 j (by omega) j1
      refine s_LatticefitModel_tick_54 hR3 ⟨fun q => by rw [y1 69 (by decide), c69 8 (by decide) (by decide) (by decide), n8] at q; omega, fun _ => ?_⟩
      rw [Wu 70 (by decide), Wu 73 (by decide), Wu 74 (by decide), y1 106 (by decide), o, ni.1]
      refine ⟨by omega, fun p => ⟨o01, by omega, nx _ (by rw [if_neg (fun z => p z.1)])⟩, fun p => ?_⟩
      have nn := ni.2.2.2.1 p
      rw [nn.1, nn.2.2.2.1]
      have x6 := c106 (μ 7 0 i) nn.2.1 nn.2.2.1
      rw [x6.1]
      exact ⟨fun q => ⟨o01, by omega, nx _ (by rw [if_neg (fun z => q z.2)])⟩, fun q => ⟨by omega, x6.2, by omega, nx _ (by rw [if_pos ⟨p, q⟩])⟩⟩
    · intro W ⟨y1, y2, y3⟩ u
      exact s_LatticefitModel_tick_54 hR3 ⟨fun _ => l117 W y1 y2 _, fun q => by rw [y1 69 (by decide), c69 8 (by decide) (by decide) (by decide), n8] at q; omega⟩
  · show R 14 [ma_Rf 2 0, ma_I v1, ma_Rf 111 0, ma_U] [ma_X 0] 2 μ
    refine g_LatticefitLaw_tick_14 hR ⟨Nat.le_refl 2, hP 2 μ (fun Post2 h2 => ?_)⟩
    have fin := h2 (ma_L 0) _ T2 ma_up_eq (fun z => by omega)
    exact gi_LatticefitModel_tick (fun R3 hR3 => s_LatticefitModel_tick_0 (d := d + 7) hR3 ⟨fun _ => by omega, fun _ => ⟨fun _ => by omega, fun _ => ⟨fun q => absurd (by rw [s29, if_neg (by omega)]) q, fun _ => fin⟩⟩⟩)
