/-! scrub -/
def sc_b (μ : ma_M) (f : Int) : Int := if ck_sum (μ 60 f) (fl_len f).toNat = ck_sum (μ 55 f) (fl_len f).toNat then 0 else 1
def sc_w (μ : ma_M) (f i : Int) : Int := if ck_sum (μ 60 f) (fl_len f).toNat = ck_sum (μ 55 f) (fl_len f).toNat then μ 60 f i else μ 55 f i
theorem sc_b_rng (μ : ma_M) (f : Int) : 0 ≤ sc_b μ f ∧ sc_b μ f ≤ 1 := by unfold sc_b; split <;> omega
theorem pr_scrub {LS d : Nat} {μ : ma_M} (H : Rel μ) : Pr LS d mi_LatticefitLaw_scrub [ma_Rf 2 0, ma_Rf 111 0] mi_LatticefitModel_scrub [ma_Rf 69 0] agI μ := by
  intro Post hP
  obtain ⟨Hc, Hs, Hz, Hu, Hm, Hr, Hf, Hk⟩ := id H
  have s29 := Hs.2.2.2.2.2
  have T1 := Rel_thrown H 1
  refine gi_LatticefitLaw_scrub (fun R hR => s_LatticefitLaw_scrub_0 (d := d + 8) hR ?_)
  refine gi_Latticefit_scrub (fun R2 hR2 => s_Latticefit_scrub_0 (d := d + 8) hR2 ⟨fun st => ?_, fun st => ?_⟩)
  rotate_left
  · show R 11 [ma_Rf 2 0, ma_Rf 111 0, ma_U] [ma_X 0] 1 μ
    refine g_LatticefitLaw_scrub_11 hR ⟨Nat.le_refl 1, hP 1 μ (fun Post2 h2 => ?_)⟩
    exact gi_LatticefitModel_scrub (fun R3 hR3 => s_LatticefitModel_scrub_0 (d := d + 8) hR3 ⟨fun q => absurd (by rw [s29, if_neg (by omega)]) q, fun _ => h2 (ma_I 0) _ T1 ma_up_eq (fun z => by omega)⟩)
  have F := Hf (by omega)
  have K := Hk st
  have K1 := K.1
  have wr : ∀ f i : Int, 0 ≤ f → f < 14 → 0 ≤ i → i < 36 → 0 ≤ sc_w μ f i ∧ sc_w μ f i ≤ 65535 := fun f i f0 f1 i0 i1 => by
    unfold sc_w
    split
    · exact (K1 f i f0 f1 i0 i1).2
    · exact (F f i f0 f1 i0 i1).2
  have sb : ∀ n : Nat, 0 ≤ ma_sum (sc_b μ) n ∧ ma_sum (sc_b μ) n ≤ n := fun n => by
    have := ma_sum_rng (f := sc_b μ) (b := 1) n (fun f _ _ => sc_b_rng μ f); omega
  -- the class
  refine ma_cnt (σ := ma_M) (N := 14) (P := fun i m => R2 9 [ma_Rf 2 0, ma_I (ma_sum (sc_b μ) i.toNat), ma_I i] [] 1 m) (I := fun n m => (∀ c : Nat, c ≠ 60 → m c = μ c) ∧ (∀ f i : Int, 0 ≤ f → f < 14 → 0 ≤ i → i < 36 → m 60 f i = if f < n then sc_w μ f i else μ 60 f i)) ?_ ?_ 0 μ (by omega) (by omega) ⟨fun _ _ => rfl, fun f i f0 _ _ _ => by rw [if_neg (by omega)]⟩
  · intro f m f0 f1 ⟨a1, a2⟩ ih
    have fr := fl_len_rng f
    have r60 : ∀ i : Int, 0 ≤ i → i < 36 → m 60 f i = μ 60 f i := fun i i0 i1 => by rw [a2 f i f0 f1 i0 i1, if_neg (by omega)]
    have m55 : m 55 = μ 55 := a1 55 (by decide)
    have ec : ck_sum (m 60 f) (fl_len f).toNat = ck_sum (μ 60 f) (fl_len f).toNat := ck_sum_cg _ (fun i i0 i1 => r60 i i0 (by omega))
    have es : ma_sum (sc_b μ) (f + 1).toNat = ma_sum (sc_b μ) f.toNat + sc_b μ f := by
      rw [show (f + 1).toNat = f.toNat + 1 from by omega]
      show ma_sum (sc_b μ) f.toNat + sc_b μ (f.toNat : Int) = _
      rw [show ((f.toNat : Nat) : Int) = f from by omega]
    have sr := sb f.toNat
    refine s_Latticefit_scrub_9 hR2 ⟨fun q => by omega, fun _ => sp_sum58 (d := d + 8) f0 f1 (fun i i0 i1 => by rw [r60 i i0 i1]; exact (K1 f i f0 f1 i0 i1).2) (k_Latticefit_scrub_23 hR2 (sp_sum53 (d := d + 8) f0 f1 (fun i i0 i1 => by rw [m55]; exact (F f i f0 f1 i0 i1).2) (k_Latticefit_scrub_31 hR2 ?_)))⟩
    rw [ec, m55]
    refine ⟨fun e => ⟨by omega, ?_⟩, fun e => ⟨by omega, by omega, by omega, ?_⟩⟩
    · have := ih m ⟨a1, fun g i g0 g1 i0 i1 => ?_⟩
      · rw [es, show sc_b μ f = 0 from by unfold sc_b; rw [if_pos e], Int.add_zero] at this; exact this
      · rw [a2 g i g0 g1 i0 i1]
        by_cases q : g = f
        · rw [q, if_neg (by omega), if_pos (by omega)]; unfold sc_w; rw [if_pos e]
        · by_cases q2 : g < f
          · rw [if_pos q2, if_pos (by omega)]
          · rw [if_neg q2, if_neg (by omega)]
    · have := ih (ma_cpy m 55 f 0 60 f 0 36) ⟨fun c hc => by rw [ma_cpy_ck hc]; exact a1 c hc, fun g i g0 g1 i0 i1 => ?_⟩
      · rw [es, show sc_b μ f = 1 from by unfold sc_b; rw [if_neg e]] at this; exact this
      · rw [ma_cpy_rd]
        by_cases q : g = f
        · rw [if_pos ⟨q, i0, i1⟩, q, if_pos (by omega), m55]; unfold sc_w; rw [if_neg e]
        · rw [if_neg (fun z => q z.1), a2 g i g0 g1 i0 i1]
          by_cases q2 : g < f
          · rw [if_pos q2, if_pos (by omega)]
          · rw [if_neg q2, if_neg (by omega)]
  · intro m ⟨a1, a2⟩
    refine s_Latticefit_scrub_9 hR2 ⟨fun _ => k_LatticefitLaw_scrub_3 hR ⟨by omega, hP 0 _ (fun Post2 h2 => ?_)⟩, fun q => by omega⟩
    have b1 : ∀ c : Nat, c ≠ 60 → c ≠ 111 → (ma_up m 111 0 0 (ma_sum (sc_b μ) (14 : Int).toNat)) c = μ c := fun c c1 c2 => by rw [ma_up_ck c2]; exact a1 c c1
    have b2 : ∀ f i : Int, 0 ≤ f → f < 14 → 0 ≤ i → i < 36 → (ma_up m 111 0 0 (ma_sum (sc_b μ) (14 : Int).toNat)) 60 f i = sc_w μ f i := fun f i f0 f1 i0 i1 => by rw [ma_up_ck (by decide), a2 f i f0 f1 i0 i1, if_pos f1]
    have b3 : (ma_up m 111 0 0 (ma_sum (sc_b μ) (14 : Int).toNat)) 111 0 0 = ma_sum (sc_b μ) 14 := ma_up_eq
    generalize ma_up m 111 0 0 (ma_sum (sc_b μ) (14 : Int).toNat) = M at b1 b2 b3 ⊢
    refine gi_LatticefitModel_scrub (fun R3 hR3 => s_LatticefitModel_scrub_0 (d := d + 8) hR3 ⟨fun _ => ?_, fun q => by rw [b1 69 (by decide) (by decide), s29, if_pos st] at q; omega⟩)
    have c1 : ∀ c : Nat, c ≠ 60 → c ≠ 69 → c ≠ 111 → (ma_up M 69 0 50 0) c = μ c := fun c k1 k2 k3 => by rw [ma_up_ck k2]; exact b1 c k1 k3
    have c2 : ∀ c : Nat, c ≠ 69 → (ma_up M 69 0 50 0) c = M c := fun c k => ma_up_ck k
    have c69 : ∀ f : Int, f ≠ 50 → (ma_up M 69 0 50 0) 69 0 f = μ 69 0 f := fun f hf => by rw [ma_up_ne (by omega), b1 69 (by decide) (by decide)]
    have c50 : (ma_up M 69 0 50 0) 69 0 50 = 0 := ma_up_eq
    generalize ma_up M 69 0 50 0 = A at c1 c2 c69 c50 ⊢
    refine ma_cnt (σ := ma_M) (N := 14) (P := fun n W => ∀ u3 u4 : ma_V, R3 26 [ma_Rf 69 0, ma_I (ma_sum (sc_b μ) n.toNat), ma_I n, u3, u4] [] 0 W) (I := fun n W => (∀ c : Nat, c ≠ 102 → W c = A c) ∧ (∀ f i : Int, 0 ≤ f → f < 14 → 0 ≤ i → i < 36 → W 102 0 (36 * f + i) = if f < n then sc_w μ f i else μ 60 f i)) ?_ ?_ 0 A (by omega) (by omega) ⟨fun _ _ => rfl, fun f i f0 f1 i0 i1 => by rw [if_neg (by omega), c1 102 (by decide) (by decide) (by decide)]; exact (K1 f i f0 f1 i0 i1).1⟩ _ _
    · intro f W f0 f1 ⟨x1, x2⟩ ih u3 u4
      have fr := fl_len_rng f
      have es : ma_sum (sc_b μ) (f + 1).toNat = ma_sum (sc_b μ) f.toNat + sc_b μ f := by
        rw [show (f + 1).toNat = f.toNat + 1 from by omega]
        show ma_sum (sc_b μ) f.toNat + sc_b μ (f.toNat : Int) = _
        rw [show ((f.toNat : Nat) : Int) = f from by omega]
      have sr := sb f.toNat
      have W101 : W 101 = μ 101 := (x1 101 (by decide)).trans (c1 101 (by decide) (by decide) (by decide))
      have W55 : W 55 = μ 55 := (x1 55 (by decide)).trans (c1 55 (by decide) (by decide) (by decide))
      refine s_LatticefitModel_scrub_26 hR3 ⟨fun q => by omega, fun _ => sp_bad (d := d + 8) f0 f1 (fun i i0 i1 => by rw [W101, W55]; exact F f i f0 f1 i0 i1) (μ 60 f) (fun i i0 i1 => by rw [x2 f i f0 f1 i0 i1, if_neg (by omega)]; exact ⟨rfl, (K1 f i f0 f1 i0 i1).2⟩) (fun e => ?_) (fun e => ?_)⟩
      · rw [W55] at e
        refine k_LatticefitModel_scrub_34 hR3 ⟨fun _ => ⟨by omega, ?_⟩, fun q => absurd rfl q⟩
        refine s_LatticefitModel_scrub_53 hR3 ⟨fun q => by omega, fun _ => ⟨fun _ => ⟨by omega, ?_⟩, fun q => absurd rfl q⟩⟩
        have := ih W ⟨x1, fun g i g0 g1 i0 i1 => ?_⟩ ma_U ma_U
        · rw [es, show sc_b μ f = 0 from by unfold sc_b; rw [if_pos e]] at this; exact this
        · rw [x2 g i g0 g1 i0 i1]
          by_cases q : g = f
          · rw [q, if_neg (by omega), if_pos (by omega)]; unfold sc_w; rw [if_pos e]
          · by_cases q2 : g < f
            · rw [if_pos q2, if_pos (by omega)]
            · rw [if_neg q2, if_neg (by omega)]
      · rw [W55] at e
        refine k_LatticefitModel_scrub_34 hR3 ⟨fun q => absurd q (by decide), fun _ => ⟨by omega, ?_⟩⟩
        refine ma_cnt (σ := ma_M) (N := 36) (P := fun k V => R3 53 [ma_Rf 69 0, ma_I (ma_sum (sc_b μ) f.toNat + 1), ma_I f, ma_I 1, ma_I k] [] 0 V) (I := fun k V => (∀ c : Nat, c ≠ 102 → V c = A c) ∧ (∀ g i : Int, 0 ≤ g → g < 14 → 0 ≤ i → i < 36 → V 102 0 (36 * g + i) = if g < f ∨ (g = f ∧ i < k) then sc_w μ g i else μ 60 g i)) ?_ ?_ 0 W (by omega) (by omega) ⟨x1, fun g i g0 g1 i0 i1 => ?_⟩
        · intro k V k0 k1 ⟨y1, y2⟩ ih'
          have V101 : V 101 = μ 101 := (y1 101 (by decide)).trans (c1 101 (by decide) (by decide) (by decide))
          refine s_LatticefitModel_scrub_53 hR3 ⟨fun q => by omega, fun _ => ⟨fun q => absurd q (by decide), fun _ => ⟨by omega, by omega, by omega, by omega, ih' _ ⟨fun c hc => by rw [ma_up_ck hc]; exact y1 c hc, fun g i g0 g1 i0 i1 => ?_⟩⟩⟩⟩
          by_cases q : g = f ∧ i = k
          · rw [q.1, q.2, ma_up_eq, V101, if_pos (.inr ⟨rfl, by omega⟩), (F f k f0 f1 k0 k1).1]; unfold sc_w; rw [if_neg e]
          · rw [ma_up_ne (by omega), y2 g i g0 g1 i0 i1]
            by_cases q2 : g < f ∨ (g = f ∧ i < k)
            · rw [if_pos q2, if_pos (by omega)]
            · rw [if_neg q2, if_neg (by omega)]
        · intro V ⟨y1, y2⟩
          refine s_LatticefitModel_scrub_53 hR3 ⟨fun _ => ⟨by omega, ?_⟩, fun q => by omega⟩
          have := ih V ⟨y1, fun g i g0 g1 i0 i1 => ?_⟩ ma_U ma_U
          · rw [es, show sc_b μ f = 1 from by unfold sc_b; rw [if_neg e]] at this; exact this
          · rw [y2 g i g0 g1 i0 i1]
            by_cases q2 : g < f + 1
            · rw [if_pos (by omega), if_pos q2]
            · rw [if_neg (by omega), if_neg q2]
        · rw [x2 g i g0 g1 i0 i1]
          by_cases q2 : g < f
          · rw [if_pos q2, if_pos (.inl q2)]
          · rw [if_neg q2, if_neg (by omega)]
    · intro W ⟨x1, x2⟩ u3 u4
      refine s_LatticefitModel_scrub_26 hR3 ⟨fun _ => ?_, fun q => by omega⟩
      have z69 : ∀ f : Int, f ≠ 50 → W 69 0 f = μ 69 0 f := fun f hf => by rw [x1 69 (by decide)]; exact c69 f hf
      have zo : ∀ c : Nat, c ≠ 60 → c ≠ 69 → c ≠ 102 → c ≠ 111 → W c = μ c := fun c k1 k2 k3 k4 => by rw [x1 c k3]; exact c1 c k1 k2 k4
      refine h2 _ W (Rel_k H (fun k _ k2 _ _ _ _ _ _ _ k10 k11 _ _ _ _ _ _ _ k19 _ => zo k k2 k10 k11 k19) (fun f _ _ _ f4 => z69 f f4) ?_ (fun _ => ?_)) (by rw [x1 69 (by decide)]; exact c50) (fun _ => ⟨_, rfl, ?_⟩)
      · rw [z69 46 (by decide), z69 47 (by decide)]; exact Hz.2.2.2.2.1
      · unfold rl_k at K ⊢
        rw [zo 105 (by decide) (by decide) (by decide) (by decide), zo 61 (by decide) (by decide) (by decide) (by decide), zo 104 (by decide) (by decide) (by decide) (by decide), zo 62 (by decide) (by decide) (by decide) (by decide), zo 103 (by decide) (by decide) (by decide) (by decide), zo 67 (by decide) (by decide) (by decide) (by decide), zo 3 (by decide) (by decide) (by decide) (by decide), zo 4 (by decide) (by decide) (by decide) (by decide), zo 57 (by decide) (by decide) (by decide) (by decide), z69 49 (by decide)]
        refine ⟨fun f i f0 f1 i0 i1 => ?_, K.2⟩
        rw [x2 f i f0 f1 i0 i1, if_pos f1, x1 60 (by decide), c2 60 (by decide), b2 f i f0 f1 i0 i1]
        exact ⟨rfl, wr f i f0 f1 i0 i1⟩
      · rw [x1 111 (by decide), c2 111 (by decide)]; exact b3
