/-! sourceOf, isBad, scrub, isConsistent -/
theorem sp_srcOf {LS d : Nat} {Post : ma_R → ma_M → Prop} {μ : ma_M} {v1 v2 : Int} (Hp : rl_p μ) (M7 : μ 21 0 7 ≤ 36) (st : 4 ≤ μ 2 0 10) (I0 : 0 ≤ μ 3 0 11) (I1 : μ 3 0 11 ≤ 6) (a : 0 ≤ v1) (a1 : v1 < 36) (b : 0 ≤ v2) (b1 : v2 < 4) (hb : so_n μ (ch_end (μ 60) (μ 60 (v1 / 6) (6 * (v1 % 6) + 1 + v2))) < 0 → Post (.inl (some (ma_I (-900003)))) μ) (hg : 0 ≤ so_n μ (ch_end (μ 60) (μ 60 (v1 / 6) (6 * (v1 % 6) + 1 + v2))) → Post (.inl (some (ma_I (so_n μ (ch_end (μ 60) (μ 60 (v1 / 6) (6 * (v1 % 6) + 1 + v2))))))) μ) : ma_Ox LS (d + 6) mi_LatticefitLaw_sourceOf [ma_Rf 2 0, ma_I v1, ma_I v2] μ Post := by
  refine gi_LatticefitLaw_sourceOf (fun R hR => s_LatticefitLaw_sourceOf_0 (d := d) hR ?_)
  refine gi_Latticefit_sourceOf (fun R2 hR2 => s_Latticefit_sourceOf_0 (d := d) hR2 ⟨fun q => by omega, fun _ => ⟨fun q => by omega, fun _ => ⟨fun q => by omega, fun _ => ⟨fun _ => ⟨fun _ => ?_, fun q => by omega⟩, fun q => by omega⟩⟩⟩⟩)
  rw [td_nn a, tm_nn a, show 6 * (v1 % 6) + (1 + v2) = 6 * (v1 % 6) + 1 + v2 from by omega]
  refine ⟨by omega, by omega, by omega, by omega, by omega, by omega, sp_endOf (d := d) (k_Latticefit_sourceOf_54 (d := d) hR2 ?_)⟩
  generalize ch_end (μ 60) (μ 60 (v1 / 6) (6 * (v1 % 6) + 1 + v2)) = s at hb hg ⊢
  have bad : so_n μ s < 0 → R 15 [ma_Rf 2 0, ma_I v1, ma_I v2, ma_U] [ma_X 4] 2 μ := fun q => g_LatticefitLaw_sourceOf_15 hR ⟨Nat.le_refl 2, hb q⟩
  have good : ∀ x : Int, x = so_n μ s → 0 ≤ x → ma_ct (ma_Ox LS (d + 5)) (LS, [(0, 6, 7, 3), (0, 6, 11, 0), (0, 6, 15, 4)], 1, 2) 3 [ma_Rf 2 0, ma_I v1, ma_I v2, ma_U] [] 2 mt_LatticefitLaw_sourceOf_6 R (ma_DD (LS, [(0, 6, 7, 3), (0, 6, 11, 0), (0, 6, 15, 4)], 1, 2) Post) (.inl (some (ma_I x))) μ := by
    intro x hx q
    subst hx
    exact k_LatticefitLaw_sourceOf_3 (d := d) hR (hg q)
  unfold so_n at bad good
  have nb : ∀ c : Int, 0 ≤ c → c < 36 → 0 ≤ μ 33 0 c → μ 33 0 c < 48 := fun c c0 c1 _ => by have := (Hp.2 c c0 c1).2.2.1; omega
  refine ⟨fun q1 => ⟨fun q2 => bad ?_, fun q2 => ⟨fun q3 => ⟨by omega, ?_, ?_, ?_⟩, fun q3 => bad ?_⟩⟩, fun q1 => ⟨by omega, fun q2 => ⟨fun q3 => bad ?_, fun q3 => ⟨fun q4 => by omega, fun q4 => bad ?_⟩⟩, fun q2 => ⟨by omega, by omega, fun q3 => good _ ?_ q3, fun q3 => bad ?_⟩⟩⟩
  · rw [if_neg (by omega), if_neg (by omega)]; omega
  · rw [td_nn (a := s - 200) (by omega)]; omega
  · rw [td_nn (a := s - 200) (by omega)]; omega
  · rw [td_nn (a := s - 200) (by omega), tm_nn (a := s) (by omega)]
    have hs : 200 ≤ s ∧ s < 272 := ⟨q2, q3⟩
    have nb2 := nb ((s - 200) / 2) (by omega) (by omega)
    refine ⟨fun p => ⟨fun r => ⟨⟨p, nb2 p⟩, fun q => good _ ?_ q, fun q => bad ?_⟩, fun r => ⟨⟨p, nb2 p⟩, fun q => good _ ?_ q, fun q => bad ?_⟩⟩, fun p => bad ?_⟩
    · rw [if_neg (by omega), if_pos hs, if_pos p, if_neg r]
    · rw [if_neg (by omega), if_pos hs, if_pos p, if_neg r]; exact q
    · rw [if_neg (by omega), if_pos hs, if_pos p, if_pos r]
    · rw [if_neg (by omega), if_pos hs, if_pos p, if_pos r]; exact q
    · rw [if_neg (by omega), if_pos hs, if_neg (by omega)]; omega
  · rw [if_neg (by omega), if_neg (by omega)]; omega
  · rw [if_neg (by omega), if_neg (by omega)]; omega
  · rw [if_neg (by omega), if_neg (by omega)]; omega
  · rw [if_pos ⟨q1, q2⟩]
  · rw [if_pos ⟨q1, q2⟩]; exact q3
theorem sp_srcOf0 {LS d : Nat} {Post : ma_R → ma_M → Prop} {μ : ma_M} {v1 v2 : Int} (hb : v1 < 0 ∨ 36 ≤ v1 ∨ v2 < 0 ∨ 4 ≤ v2) (h : Post (.inl (some (ma_I (-900001)))) μ) : ma_Ox LS (d + 6) mi_LatticefitLaw_sourceOf [ma_Rf 2 0, ma_I v1, ma_I v2] μ Post := by
  refine gi_LatticefitLaw_sourceOf (fun R hR => s_LatticefitLaw_sourceOf_0 (d := d) hR ?_)
  have fin : R 7 [ma_Rf 2 0, ma_I v1, ma_I v2, ma_U] [ma_X 3] 2 μ := g_LatticefitLaw_sourceOf_7 hR ⟨Nat.le_refl 2, h⟩
  refine gi_Latticefit_sourceOf (fun R2 hR2 => s_Latticefit_sourceOf_0 (d := d) hR2 ⟨fun _ => ?_, fun _ => ⟨fun _ => ?_, fun _ => ⟨fun _ => ?_, fun _ => ⟨fun q => by omega, fun _ => ?_⟩⟩⟩⟩)
  · exact fin
  · exact fin
  · exact fin
  · exact fin
theorem sp_bad {LS d : Nat} {Post : ma_R → ma_M → Prop} {μ : ma_M} {f : Int} (st : 4 ≤ μ 2 0 10) (f0 : 0 ≤ f) (f1 : f < 14) (K1 : ∀ f i : Int, 0 ≤ f → f < 14 → 0 ≤ i → i < 36 → 0 ≤ μ 60 f i ∧ μ 60 f i ≤ 65535) (F : ∀ f i : Int, 0 ≤ f → f < 14 → 0 ≤ i → i < 36 → 0 ≤ μ 55 f i ∧ μ 55 f i ≤ 65535) (h : Post (.inl (some (ma_I (sc_b μ f)))) μ) : ma_Ox LS (d + 4) mi_LatticefitLaw_isBad [ma_Rf 2 0, ma_I f] μ Post := by
  refine gi_LatticefitLaw_isBad (fun R hR => s_LatticefitLaw_isBad_0 (d := d) hR ?_)
  refine gi_Latticefit_isBad (fun R2 hR2 => s_Latticefit_isBad_0 (d := d) hR2 ⟨fun q => by omega, fun _ => ⟨fun _ => ⟨fun _ => ?_, fun q => by omega⟩, fun q => by omega⟩⟩)
  refine sp_sum58 (d := d) f0 f1 (fun i i0 i1 => K1 f i f0 f1 i0 i1) (k_Latticefit_isBad_14 (d := d) hR2 (sp_sum53 (d := d) f0 f1 (fun i i0 i1 => F f i f0 f1 i0 i1) (k_Latticefit_isBad_22 (d := d) hR2 ?_)))
  unfold sc_b at h
  refine ⟨fun e => k_LatticefitLaw_isBad_2 (d := d) hR ⟨fun _ => ?_, fun q2 => absurd rfl q2⟩, fun e => k_LatticefitLaw_isBad_2 (d := d) hR ⟨fun q2 => absurd q2 (by decide), fun _ => ?_⟩⟩
  · rw [if_pos e] at h; exact h
  · rw [if_neg e] at h; exact h
theorem sp_bad0 {LS d : Nat} {Post : ma_R → ma_M → Prop} {μ : ma_M} {f : Int} (hb : f < 0 ∨ 14 ≤ f) (h : Post (.inl (some (ma_I (-900001)))) μ) : ma_Ox LS (d + 4) mi_LatticefitLaw_isBad [ma_Rf 2 0, ma_I f] μ Post := by
  refine gi_LatticefitLaw_isBad (fun R hR => s_LatticefitLaw_isBad_0 (d := d) hR ?_)
  have fin : R 14 [ma_Rf 2 0, ma_I f, ma_U] [ma_X 3] 2 μ := g_LatticefitLaw_isBad_14 hR ⟨Nat.le_refl 2, h⟩
  refine gi_Latticefit_isBad (fun R2 hR2 => s_Latticefit_isBad_0 (d := d) hR2 ⟨fun _ => ?_, fun _ => ⟨fun q => by omega, fun _ => ?_⟩⟩)
  · exact fin
  · exact fin
theorem sp_scrubL {LS d : Nat} {Post : ma_R → ma_M → Prop} {μ : ma_M} (st : 4 ≤ μ 2 0 10) (K1 : ∀ f i : Int, 0 ≤ f → f < 14 → 0 ≤ i → i < 36 → 0 ≤ μ 60 f i ∧ μ 60 f i ≤ 65535) (F : ∀ f i : Int, 0 ≤ f → f < 14 → 0 ≤ i → i < 36 → 0 ≤ μ 55 f i ∧ μ 55 f i ≤ 65535) (h : ∀ m : ma_M, (∀ c : Nat, c ≠ 60 → m c = μ c) → (∀ f i : Int, 0 ≤ f → f < 14 → 0 ≤ i → i < 36 → m 60 f i = sc_w μ f i) → Post (.inl (some (ma_I (ma_sum (sc_b μ) 14)))) m) : ma_Ox LS (d + 4) mi_LatticefitLaw_scrub [ma_Rf 2 0] μ Post := by
  refine gi_LatticefitLaw_scrub (fun R hR => s_LatticefitLaw_scrub_0 (d := d) hR ?_)
  refine gi_Latticefit_scrub (fun R2 hR2 => s_Latticefit_scrub_0 (d := d) hR2 ⟨fun _ => ?_, fun q => by omega⟩)
  have wr : ∀ f i : Int, 0 ≤ f → f < 14 → 0 ≤ i → i < 36 → 0 ≤ sc_w μ f i ∧ sc_w μ f i ≤ 65535 := fun f i f0 f1 i0 i1 => by
    unfold sc_w
    split
    · exact K1 f i f0 f1 i0 i1
    · exact F f i f0 f1 i0 i1
  have sb : ∀ n : Nat, 0 ≤ ma_sum (sc_b μ) n ∧ ma_sum (sc_b μ) n ≤ n := fun n => by
    have := ma_sum_rng (f := sc_b μ) (b := 1) n (fun f _ _ => sc_b_rng μ f); omega
  -- the class
  refine ma_cnt (σ := ma_M) (N := 14) (P := fun i m => R2 9 [ma_Rf 2 0, ma_I (ma_sum (sc_b μ) i.toNat), ma_I i] [] 1 m) (I := fun n m => (∀ c : Nat, c ≠ 60 → m c = μ c) ∧ (∀ f i : Int, 0 ≤ f → f < 14 → 0 ≤ i → i < 36 → m 60 f i = if f < n then sc_w μ f i else μ 60 f i)) ?_ ?_ 0 μ (by omega) (by omega) ⟨fun _ _ => rfl, fun f i f0 _ _ _ => by rw [if_neg (by omega)]⟩
  · intro f m f0 f1 ⟨a1, a2⟩ ih
    have fr := fl_len_rng f
    have r60 : ∀ i : Int, 0 ≤ i → i < 36 → m 60 f i = μ 60 f i := fun i i0 i1 => by rw [a2 f i f0 f1 i0 i1, if_neg (by omega)]
    have m55 : m 55 = μ 55 := a1 55 (by decide)
    have ec : ck_sum (m 60 f) (fl_len f).toNat = ck_sum (μ 60 f) (fl_len f).toNat := ck_sum_cg _ (fun i i0 i1 => r60 i i0 (by omega))
    have es : ma_sum (sc_b μ) (f + 1).toNat = ma_sum (sc_b μ) f.toNat + sc_b μ f := by
      rw [show (f + 1).toNat = f.toNat + 1 from by omega]
      show ma_sum (sc_b μ) f.toNat + sc_b μ (f.toNat : Int) = _
      rw [show ((f.toNat : Nat) : Int) = f from by omega]
    have sr := sb f.toNat
    refine s_Latticefit_scrub_9 (d := d) hR2 ⟨fun q => by omega, fun _ => sp_sum58 (d := d) f0 f1 (fun i i0 i1 => by rw [r60 i i0 i1]; exact K1 f i f0 f1 i0 i1) (k_Latticefit_scrub_23 (d := d) hR2 (sp_sum53 (d := d) f0 f1 (fun i i0 i1 => by rw [m55]; exact F f i f0 f1 i0 i1) (k_Latticefit_scrub_31 (d := d) hR2 ?_)))⟩
    rw [ec, m55]
    refine ⟨fun e => ⟨by omega, ?_⟩, fun e => ⟨by omega, by omega, by omega, ?_⟩⟩
    · have := ih m ⟨a1, fun g i g0 g1 i0 i1 => ?_⟩
      · rw [es, show sc_b μ f = 0 from by unfold sc_b; rw [if_pos e], Int.add_zero] at this; exact this
      · rw [a2 g i g0 g1 i0 i1]
        by_cases q : g = f
        · rw [q, if_neg (by omega), if_pos (by omega)]; unfold sc_w; rw [if_pos e]
        · by_cases q2 : g < f
          · rw [if_pos q2, if_pos (by omega)]
          · rw [if_neg q2, if_neg (by omega)]
    · have := ih (ma_cpy m 55 f 0 60 f 0 36) ⟨fun c hc => by rw [ma_cpy_ck hc]; exact a1 c hc, fun g i g0 g1 i0 i1 => ?_⟩
      · rw [es, show sc_b μ f = 1 from by unfold sc_b; rw [if_neg e]] at this; exact this
      · rw [ma_cpy_rd]
        by_cases q : g = f
        · rw [if_pos ⟨q, i0, i1⟩, q, if_pos (by omega), m55]; unfold sc_w; rw [if_neg e]
        · rw [if_neg (fun z => q z.1), a2 g i g0 g1 i0 i1]
          by_cases q2 : g < f
          · rw [if_pos q2, if_pos (by omega)]
          · rw [if_neg q2, if_neg (by omega)]
  · intro m ⟨a1, a2⟩
    exact s_Latticefit_scrub_9 (d := d) hR2 ⟨fun _ => k_LatticefitLaw_scrub_1 (d := d) hR (h m a1 (fun f i f0 f1 i0 i1 => by rw [a2 f i f0 f1 i0 i1, if_pos f1])), fun q => by omega⟩
theorem sp_cons {LS d : Nat} {Post : ma_R → ma_M → Prop} {μ : ma_M} (H : rt μ) (st : 4 ≤ μ 2 0 10) (h : Post (.inl (some (ma_I 1))) μ) : ma_Ox LS (d + 3) mi_Latticefit_isConsistent [ma_Rf 2 0] μ Post := by
  refine gi_Latticefit_isConsistent (fun R hR => s_Latticefit_isConsistent_0 (d := d) hR ?_)
  refine sp_Circuit_isSound (d := d) H.1.1 (k_Latticefit_isConsistent_4 (d := d) hR ?_)
  refine ⟨fun _ => ⟨fun q => by omega, fun _ => ?_⟩, fun z => absurd z (by decide)⟩
  refine sp_Places_isSound (d := d + 1) ⟨H.1.2.2.1.1, H.1.2.2.1.2.1⟩ H.2.1 (k_Latticefit_isConsistent_24 (d := d) hR ⟨fun _ => ⟨fun q => by omega, fun _ => ?_⟩, fun z => absurd z (by decide)⟩)
  exact sp_isCrowded (d := d + 1) (fun e e0 e1 => (H.2.2.2 e e0 e1).2) (k_Latticefit_isConsistent_44 (d := d) hR ⟨fun z => absurd rfl z, fun _ => h⟩)
/-! a flipped bit changes the frame's sum -/
theorem fl_dif {v b : Nat} (hb : b < 12) : (v ^^^ 2 ^ b) ≠ v ∧ (v ^^^ 2 ^ b) / 4096 = v / 4096 := by
  refine ⟨fun h => ?_, ?_⟩
  · have h2 := congrArg (fun z : Nat => z.testBit b) h
    simp only [Nat.testBit_xor, Nat.testBit_two_pow_self] at h2
    cases e : v.testBit b <;> rw [e] at h2 <;> exact absurd h2 (by decide)
  · have hp : 2 ^ b < 2 ^ 12 := Nat.pow_lt_pow_right (by decide) hb
    rw [show (4096 : Nat) = 2 ^ 12 from rfl, ← Nat.shiftRight_eq_div_pow, Nat.shiftRight_xor_distrib, Nat.shiftRight_eq_div_pow (2 ^ b), Nat.div_eq_of_lt hp, Nat.xor_zero, Nat.shiftRight_eq_div_pow]
theorem ck_flip {w v : Int → Int} {i : Nat} (hs : ∀ j : Int, 0 ≤ j → j ≠ i → w j = v j) (hn : w i ≠ v i) (hd : w i - v i < 65521 ∧ v i - w i < 65521) : ∀ n : Nat, i < n → ck_sum w n ≠ ck_sum v n
  | 0, h => absurd h (Nat.not_lt_zero i)
  | n + 1, h => by
    have a := ck_sum_rng w n
    have b := ck_sum_rng v n
    show (31 * ck_sum w n + w n) % 65521 ≠ (31 * ck_sum v n + v n) % 65521
    by_cases e : n = i
    · subst e
      have c : ck_sum w n = ck_sum v n := ck_sum_cg n (fun j j0 j1 => hs j j0 (by omega))
      rw [c]
      omega
    · have ih := ck_flip hs hn hd n (by omega)
      rw [hs n (by omega) (by omega)]
      omega
