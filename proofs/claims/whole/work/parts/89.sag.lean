/-! sourceOf, agrees -/
def so_n (μ : ma_M) (a : Int) : Int := if 300 ≤ a ∧ a < 300 + μ 3 0 11 then μ 11 0 (a - 300) else if 200 ≤ a ∧ a < 272 then (if 0 ≤ μ 33 0 ((a - 200) / 2) then (if a % 2 = 0 then μ 22 0 (μ 33 0 ((a - 200) / 2)) else μ 23 0 (μ 33 0 ((a - 200) / 2))) else -1) else -1
theorem sp_inputAt {LS d : Nat} {Post : ma_R → ma_M → Prop} {μ m : ma_M} (Hc : rl_c μ) (h8 : m 69 0 8 = μ 69 0 8) (h70 : m 70 = μ 70) (h75 : m 75 = μ 75) {j : Int} (j0 : 0 ≤ j) (h : Post (.inl (some (ma_I (if j < μ 3 0 11 then μ 11 0 j else -1)))) m) :
    ma_Ox LS (d + 1) mi_LatticefitModel_inputAt [ma_Rf 69 0, ma_I j] m Post := by
  obtain ⟨N0, N1, I0, I1, R0, R1, O0, O1, n8, n9, n10, n11, hn, hin, hr, _, hrj, hoo⟩ := Hc
  refine gi_LatticefitModel_inputAt (fun R hR => s_LatticefitModel_inputAt_0 (d := d) hR ?_)
  refine ma_cnt (σ := Int) (N := μ 3 0 10) (P := fun i f => R 4 [ma_Rf 69 0, ma_I j, ma_I f, ma_I i] [] 0 m) (I := fun n f => f = if j < μ 3 0 11 ∧ μ 11 0 j < n then μ 11 0 j else -1) ?_ ?_ 0 (-1) (by omega) (by omega) ?_
  · intro n f n0 n1 hf ih
    have ni := hn n n0 n1
    have jx : j < μ 3 0 11 → 0 ≤ μ 11 0 j ∧ μ 11 0 j < μ 3 0 10 ∧ μ 4 0 (μ 11 0 j) = 105 ∧ μ 10 0 (μ 11 0 j) = j := fun q => hin j j0 q
    refine s_LatticefitModel_inputAt_4 hR ⟨fun q => by rw [h8, n8] at q; omega, fun _ => ?_⟩
    rw [h70, h75, ni.1]
    have keep : (j < μ 3 0 11 → μ 11 0 j ≠ n) → R 4 [ma_Rf 69 0, ma_I j, ma_I f, ma_I (n + 1)] [] 0 m := by
      intro q
      refine ih f ?_
      rw [hf]
      by_cases p : j < μ 3 0 11 ∧ μ 11 0 j < n
      · rw [if_pos p, if_pos ⟨p.1, by omega⟩]
      · rw [if_neg p, if_neg (fun z => p ⟨z.1, by have := q z.1; omega⟩)]
    refine ⟨by omega, fun p => ⟨by omega, keep (fun q z => p (by rw [← z]; exact (jx q).2.2.1))⟩, fun p => ?_⟩
    have t := ni.2.2.1 p
    rw [t.1]
    refine ⟨fun e => ⟨by omega, keep (fun q z => e (by rw [← z]; exact (jx q).2.2.2))⟩, fun e => ⟨by omega, ih n ?_⟩⟩
    rw [e] at t
    rw [if_pos ⟨t.2.2.1, by rw [t.2.2.2]; omega⟩, t.2.2.2]
  · intro f hf
    refine s_LatticefitModel_inputAt_4 hR ⟨fun _ => ?_, fun q => by rw [h8, n8] at q; omega⟩
    rw [hf]
    by_cases p : j < μ 3 0 11
    · rw [if_pos p] at h
      rw [if_pos ⟨p, (hin j j0 p).2.1⟩]; exact h
    · rw [if_neg p] at h
      rw [if_neg (fun z => p z.1)]; exact h
  · by_cases p : j < μ 3 0 11
    · rw [if_neg (fun z => by have := (hin j j0 p).1; omega)]
    · rw [if_neg (fun z => p z.1)]
theorem pr_sourceOf {LS d : Nat} {μ : ma_M} (H : Rel μ) {v1 v2 : Int} : Pr LS d mi_LatticefitLaw_sourceOf [ma_Rf 2 0, ma_I v1, ma_I v2, ma_Rf 111 0] mi_LatticefitModel_sourceOf [ma_Rf 69 0, ma_I v1, ma_I v2] agI μ := by
  intro Post hP
  obtain ⟨Hc, Hs, Hz, Hu, Hm, Hr, Hf, Hk⟩ := id H
  have s29 := Hs.2.2.2.2.2
  have T1 := Rel_thrown H 1
  have T2 := Rel_thrown (Rel_thrown H 0) 2
  have T3 := Rel_thrown (Rel_thrown (Rel_thrown H 0) 0) 3
  have HC := Hc
  obtain ⟨N0, N1, I0, I1, R0, R1, O0, O1, n8, n9, n10, n11, hn, hin, hr, _, hrj, hoo⟩ := HC
  refine gi_LatticefitLaw_sourceOf (fun R hR => s_LatticefitLaw_sourceOf_0 (d := d + 6) hR ?_)
  refine gi_Latticefit_sourceOf (fun R2 hR2 => s_Latticefit_sourceOf_0 (d := d + 6) hR2 ?_)
  have L2 : (v1 < 0 ∨ 36 ≤ v1 ∨ v2 < 0 ∨ 4 ≤ v2) → ma_ct (ma_Ox LS (d + 6 + 5)) (LS, [(0, 10, 13, 2), (0, 10, 17, 0), (0, 10, 21, 4)], 1, 2) 5 [ma_Rf 2 0, ma_I v1, ma_I v2, ma_Rf 111 0, ma_U] [ma_I 0, ma_Rf 111 0] 2 mt_LatticefitLaw_sourceOf_8 R (ma_DD (LS, [(0, 10, 13, 2), (0, 10, 17, 0), (0, 10, 21, 4)], 1, 2) Post) (.inr 2) μ := by
    intro hc
    show R 13 [ma_Rf 2 0, ma_I v1, ma_I v2, ma_Rf 111 0, ma_U] [ma_X 2] 2 μ
    refine g_LatticefitLaw_sourceOf_13 hR ⟨Nat.le_refl 2, hP 1 μ (fun Post2 h2 => ?_)⟩
    have fin := h2 (ma_I 0) _ T1 ma_up_eq (fun z => by omega)
    exact gi_LatticefitModel_sourceOf (fun R3 hR3 => s_LatticefitModel_sourceOf_0 (d := d + 8) hR3 ⟨fun _ => fin, fun _ => ⟨fun _ => fin, fun _ => ⟨fun _ => fin, fun _ => ⟨fun _ => fin, fun _ => by omega⟩⟩⟩⟩)
  refine ⟨fun a => L2 (by omega), fun a => ⟨fun b => L2 (by omega), fun b => ⟨fun e => L2 (by omega), fun e => ⟨fun f => ⟨fun st => ?_, fun st => ?_⟩, fun f => L2 (by omega)⟩⟩⟩⟩
  · have K := Hk st
    obtain ⟨Hmm, Hpp⟩ := Hm (by omega)
    have M7 := Hmm.1
    have M7' := Hmm.2.1
    have ci := ch_in_of H K
    rw [td_nn a, tm_nn a, show 6 * (v1 % 6) + (1 + v2) = 6 * (v1 % 6) + 1 + v2 from by omega]
    refine ⟨by omega, by omega, by omega, by omega, by omega, by omega, sp_endOf (d := d + 6) (k_Latticefit_sourceOf_54 hR2 ?_)⟩
    -- the reference's answer, whatever the memory
    have ref : ∀ (M : ma_M), Rel M → (∀ c : Nat, c ≠ 111 → M c = μ c) → ∀ Post2 : ma_R → ma_M → Prop, (0 ≤ so_n μ (ch_end (μ 60) (μ 60 (v1 / 6) (6 * (v1 % 6) + 1 + v2))) → Post2 (.inl (some (ma_I (so_n μ (ch_end (μ 60) (μ 60 (v1 / 6) (6 * (v1 % 6) + 1 + v2))))))) (ma_up (ma_up (ma_up M 69 0 50 0) 69 0 50 0) 69 0 50 0)) → (so_n μ (ch_end (μ 60) (μ 60 (v1 / 6) (6 * (v1 % 6) + 1 + v2))) < 0 → Post2 (.inl (some (ma_I 0))) (ma_up (ma_up (ma_up M 69 0 50 0) 69 0 50 0) 69 0 50 3)) → ma_Ox LS (d + 12) mi_LatticefitModel_sourceOf [ma_Rf 69 0, ma_I v1, ma_I v2] M Post2 := by
      intro M RM hM Post2 p1 p2
      have M69 : M 69 = μ 69 := hM 69 (by decide)
      have n50 : ∀ f : Int, f ≠ 50 → (ma_up (ma_up M 69 0 50 0) 69 0 50 0) 69 0 f = μ 69 0 f := fun f hf => by rw [ma_up_ne (by omega), ma_up_ne (by omega), M69]
      have em : ∀ c : Nat, c ≠ 69 → c ≠ 111 → (ma_up (ma_up M 69 0 50 0) 69 0 50 0) c = μ c := fun c c1 c2 => by rw [ma_up_ck c1, ma_up_ck c1, hM c c2]
      have ci2 : ch_in (ma_up (ma_up M 69 0 50 0) 69 0 50 0) (μ 60) (μ 61 0) (μ 62 0) := ch_in_cg (fun c hc => em c (by omega) (by omega)) (n50 9 (by decide)) ci
      refine gi_LatticefitModel_sourceOf (fun R3 hR3 => s_LatticefitModel_sourceOf_0 (d := d + 8) hR3 ⟨fun _ => by omega, fun _ => ⟨fun _ => by omega, fun _ => ⟨fun _ => by omega, fun _ => ⟨fun _ => by omega, fun _ => ⟨fun _ => ?_, fun q => by rw [M69, s29, if_pos st] at q; omega⟩⟩⟩⟩⟩)
      rw [td_nn a, tm_nn a, show 36 * (v1 / 6) + 6 * (v1 % 6) + 1 + v2 = 36 * (v1 / 6) + (6 * (v1 % 6) + 1 + v2) from by omega, hM 102 (by decide), (K.1 (v1 / 6) (6 * (v1 % 6) + 1 + v2) (by omega) (by omega) (by omega) (by omega)).1]
      refine ⟨by omega, by omega, by omega, by omega, by omega, by omega, by omega, ?_⟩
      refine gi_LatticefitModel_arrives (fun R4 hR4 => s_LatticefitModel_arrives_0 (d := d + 8) hR4 (sp_behind (d := d + 8) ci2.1 (k_LatticefitModel_arrives_2 hR4 ?_)))
      rw [em 89 (by decide) (by decide), em 84 (by decide) (by decide), em 83 (by decide) (by decide)]
      have fin : ∀ x : Int, x = so_n μ (ch_end (μ 60) (μ 60 (v1 / 6) (6 * (v1 % 6) + 1 + v2))) → ma_ct (ma_Ox LS (d + 8 + 3)) (LS, [], 1, 0) 68 [ma_Rf 69 0, ma_I v1, ma_I v2, ma_U] [] 0 mt_LatticefitModel_sourceOf_71 R3 (ma_DD (LS, [], 1, 0) Post2) (.inl (some (ma_I x))) (ma_up (ma_up M 69 0 50 0) 69 0 50 0) := by
        intro x hx
        subst hx
        exact k_LatticefitModel_sourceOf_68 hR3 ⟨fun q => p1 q, fun q => p2 q⟩
      generalize ch_end (μ 60) (μ 60 (v1 / 6) (6 * (v1 % 6) + 1 + v2)) = s at fin ⊢
      unfold so_n at fin
      have no : ¬ (200 ≤ s ∧ s < 272) → (s < 300 → ma_ct (ma_Ox LS (d + 8 + 3)) (LS, [], 1, 0) 68 [ma_Rf 69 0, ma_I v1, ma_I v2, ma_U] [] 0 mt_LatticefitModel_sourceOf_71 R3 (ma_DD (LS, [], 1, 0) Post2) (.inl (some (ma_I (-1)))) (ma_up (ma_up M 69 0 50 0) 69 0 50 0)) := fun q1 q2 => fin (-1) (by rw [if_neg (by omega), if_neg q1])
      have no2 : 305 < s → ma_ct (ma_Ox LS (d + 8 + 3)) (LS, [], 1, 0) 68 [ma_Rf 69 0, ma_I v1, ma_I v2, ma_U] [] 0 mt_LatticefitModel_sourceOf_71 R3 (ma_DD (LS, [], 1, 0) Post2) (.inl (some (ma_I (-1)))) (ma_up (ma_up M 69 0 50 0) 69 0 50 0) := fun q1 => fin (-1) (by rw [if_neg (by omega), if_neg (by omega)])
      have yes : 300 ≤ s → s ≤ 305 → ma_Ox LS (d + 8 + 2) mi_LatticefitModel_inputAt [ma_Rf 69 0, ma_I (s - 300)] (ma_up (ma_up M 69 0 50 0) 69 0 50 0) (ma_ct (ma_Ox LS (d + 8 + 2)) (LS, [], 1, 0) 81 [ma_Rf 69 0, ma_U, ma_I s, ma_U] [] 0 mt_LatticefitModel_arrives_84 R4 (ma_DD (LS, [], 1, 0) (ma_ct (ma_Ox LS (d + 8 + 3)) (LS, [], 1, 0) 68 [ma_Rf 69 0, ma_I v1, ma_I v2, ma_U] [] 0 mt_LatticefitModel_sourceOf_71 R3 (ma_DD (LS, [], 1, 0) Post2)))) := by
        intro q1 q2
        refine sp_inputAt (d := d + 9) (μ := μ) Hc (n50 8 (by decide)) (em 70 (by decide) (by decide)) (em 75 (by decide) (by decide)) (by omega) (k_LatticefitModel_arrives_81 hR4 (fin _ ?_))
        by_cases p : s - 300 < μ 3 0 11
        · rw [if_pos p, if_pos (by omega)]
        · rw [if_neg p, if_neg (by omega), if_neg (by omega)]
      refine ⟨fun q1 => ⟨fun q2 => no (by omega) q2, fun q2 => by omega⟩, fun q1 => ⟨fun q2 => ⟨fun q3 => no (by omega) q3, fun q3 => ⟨fun q4 => no2 q4, fun q4 => ⟨by omega, yes q3 q4⟩⟩⟩, fun q2 => ?_⟩⟩
      rw [td_nn (a := s - 200) (by omega), tm_nn (a := s) (by omega)]
      have cc := Hpp.2 ((s - 200) / 2) (by omega) (by omega)
      rw [cc.1]
      refine ⟨by omega, by omega, by omega, fun p => ?_, fun p => fin _ (by rw [if_neg (by omega), if_pos (by omega), if_neg (by omega)])⟩
      have bb := Hmm.2.2.2.2.1 (μ 33 0 ((s - 200) / 2)) p cc.2.2.1
      rw [bb.1, bb.2.1]
      refine ⟨fun r => ⟨by omega, fin _ ?_⟩, fun r => ⟨by omega, fin _ ?_⟩⟩
      · rw [if_neg (by omega), if_pos (by omega), if_pos p, if_neg r]
      · rw [if_neg (by omega), if_pos (by omega), if_pos p, if_pos r]
    generalize ch_end (μ 60) (μ 60 (v1 / 6) (6 * (v1 % 6) + 1 + v2)) = s at ref ⊢
    have bad : so_n μ s < 0 → ma_ct (ma_Ox LS (d + 6 + 5)) (LS, [(0, 10, 13, 2), (0, 10, 17, 0), (0, 10, 21, 4)], 1, 2) 5 [ma_Rf 2 0, ma_I v1, ma_I v2, ma_Rf 111 0, ma_U] [ma_I 0, ma_Rf 111 0] 2 mt_LatticefitLaw_sourceOf_8 R (ma_DD (LS, [(0, 10, 13, 2), (0, 10, 17, 0), (0, 10, 21, 4)], 1, 2) Post) (.inr 4) μ := by
      intro q
      show R 21 [ma_Rf 2 0, ma_I v1, ma_I v2, ma_Rf 111 0, ma_U] [ma_X 4] 2 μ
      refine g_LatticefitLaw_sourceOf_21 hR ⟨Nat.le_refl 2, hP 3 μ (fun Post2 h2 => ?_)⟩
      exact ref μ H (fun _ _ => rfl) Post2 (fun z => by omega) (fun _ => h2 (ma_I 0) _ T3 ma_up_eq (fun z => by omega))
    have good : ∀ x : Int, x = so_n μ s → 0 ≤ x → ma_ct (ma_Ox LS (d + 6 + 5)) (LS, [(0, 10, 13, 2), (0, 10, 17, 0), (0, 10, 21, 4)], 1, 2) 5 [ma_Rf 2 0, ma_I v1, ma_I v2, ma_Rf 111 0, ma_U] [ma_I 0, ma_Rf 111 0] 2 mt_LatticefitLaw_sourceOf_8 R (ma_DD (LS, [(0, 10, 13, 2), (0, 10, 17, 0), (0, 10, 21, 4)], 1, 2) Post) (.inl (some (ma_I x))) μ := by
      intro x hx q
      refine k_LatticefitLaw_sourceOf_5 hR ⟨by omega, hP 0 _ (fun Post2 h2 => ?_)⟩
      have RM : Rel (ma_up μ 111 0 0 x) := Rel_scr H (fun c hc => ma_up_ck (by rintro rfl; revert hc; decide)) (fun f _ => by rw [ma_up_ck (by decide)])
      refine ref _ RM (fun c hc => ma_up_ck hc) Post2 (fun _ => ?_) (fun z => by omega)
      exact h2 _ _ (Rel_thrown (Rel_thrown (Rel_thrown RM 0) 0) 0) ma_up_eq (fun _ => ⟨_, rfl, by rw [ma_up_ck (by decide), ma_up_ck (by decide), ma_up_ck (by decide), ma_up_eq, hx]⟩)
    clear ref
    unfold so_n at bad good
    have nb : ∀ c : Int, 0 ≤ c → c < 36 → 0 ≤ μ 33 0 c → μ 33 0 c < 48 := fun c c0 c1 _ => by have := (Hpp.2 c c0 c1).2.2.1; omega
    have mid : (200 ≤ s ∧ s < 272) → _ := fun hs => (show ((0 ≤ (μ 33 0 (Int.tdiv (s - 200) 2)) → ((¬ (Int.tmod s 2) = 0 → (0 ≤ (μ 33 0 (Int.tdiv (s - 200) 2)) ∧ (μ 33 0 (Int.tdiv (s - 200) 2)) < 48) ∧ ((0 ≤ (μ 23 0 (μ 33 0 (Int.tdiv (s - 200) 2))) → ma_ct (ma_Ox LS (d + 6 + 5)) (LS, [(0, 10, 13, 2), (0, 10, 17, 0), (0, 10, 21, 4)], 1, 2) 5 [ma_Rf 2 0, ma_I v1, ma_I v2, ma_Rf 111 0, ma_U] [ma_I 0, ma_Rf 111 0] 2 mt_LatticefitLaw_sourceOf_8 R (ma_DD (LS, [(0, 10, 13, 2), (0, 10, 17, 0), (0, 10, 21, 4)], 1, 2) Post) (.inl (some (ma_I (μ 23 0 (μ 33 0 (Int.tdiv (s - 200) 2)))))) μ) ∧ ((μ 23 0 (μ 33 0 (Int.tdiv (s - 200) 2))) < 0 → ma_ct (ma_Ox LS (d + 6 + 5)) (LS, [(0, 10, 13, 2), (0, 10, 17, 0), (0, 10, 21, 4)], 1, 2) 5 [ma_Rf 2 0, ma_I v1, ma_I v2, ma_Rf 111 0, ma_U] [ma_I 0, ma_Rf 111 0] 2 mt_LatticefitLaw_sourceOf_8 R (ma_DD (LS, [(0, 10, 13, 2), (0, 10, 17, 0), (0, 10, 21, 4)], 1, 2) Post) (.inr 4) μ))) ∧ ((Int.tmod s 2) = 0 → (0 ≤ (μ 33 0 (Int.tdiv (s - 200) 2)) ∧ (μ 33 0 (Int.tdiv (s - 200) 2)) < 48) ∧ ((0 ≤ (μ 22 0 (μ 33 0 (Int.tdiv (s - 200) 2))) → ma_ct (ma_Ox LS (d + 6 + 5)) (LS, [(0, 10, 13, 2), (0, 10, 17, 0), (0, 10, 21, 4)], 1, 2) 5 [ma_Rf 2 0, ma_I v1, ma_I v2, ma_Rf 111 0, ma_U] [ma_I 0, ma_Rf 111 0] 2 mt_LatticefitLaw_sourceOf_8 R (ma_DD (LS, [(0, 10, 13, 2), (0, 10, 17, 0), (0, 10, 21, 4)], 1, 2) Post) (.inl (some (ma_I (μ 22 0 (μ 33 0 (Int.tdiv (s - 200) 2)))))) μ) ∧ ((μ 22 0 (μ 33 0 (Int.tdiv (s - 200) 2))) < 0 → ma_ct (ma_Ox LS (d + 6 + 5)) (LS, [(0, 10, 13, 2), (0, 10, 17, 0), (0, 10, 21, 4)], 1, 2) 5 [ma_Rf 2 0, ma_I v1, ma_I v2, ma_Rf 111 0, ma_U] [ma_I 0, ma_Rf 111 0] 2 mt_LatticefitLaw_sourceOf_8 R (ma_DD (LS, [(0, 10, 13, 2), (0, 10, 17, 0), (0, 10, 21, 4)], 1, 2) Post) (.inr 4) μ))))) ∧ ((μ 33 0 (Int.tdiv (s - 200) 2)) < 0 → ma_ct (ma_Ox LS (d + 6 + 5)) (LS, [(0, 10, 13, 2), (0, 10, 17, 0), (0, 10, 21, 4)], 1, 2) 5 [ma_Rf 2 0, ma_I v1, ma_I v2, ma_Rf 111 0, ma_U] [ma_I 0, ma_Rf 111 0] 2 mt_LatticefitLaw_sourceOf_8 R (ma_DD (LS, [(0, 10, 13, 2), (0, 10, 17, 0), (0, 10, 21, 4)], 1, 2) Post) (.inr 4) μ)) from by
      rw [td_nn (a := s - 200) (by omega), tm_nn (a := s) (by omega)]
      have nb2 := nb ((s - 200) / 2) (by omega) (by omega)
      refine ⟨fun p => ⟨fun r => ⟨⟨p, nb2 p⟩, fun q => good _ ?_ q, fun q => bad ?_⟩, fun r => ⟨⟨p, nb2 p⟩, fun q => good _ ?_ q, fun q => bad ?_⟩⟩, fun p => bad ?_⟩
      · rw [if_neg (by omega), if_pos hs, if_pos p, if_neg r]
      · rw [if_neg (by omega), if_pos hs, if_pos p, if_neg r]; exact q
      · rw [if_neg (by omega), if_pos hs, if_pos p, if_pos r]
      · rw [if_neg (by omega), if_pos hs, if_pos p, if_pos r]; exact q
      · rw [if_neg (by omega), if_pos hs, if_neg (by omega)]; omega)
    have td36 : (200 ≤ s ∧ s < 272) → 0 ≤ Int.tdiv (s - 200) 2 ∧ Int.tdiv (s - 200) 2 < 36 := fun hs => by rw [td_nn (a := s - 200) (by omega)]; omega
    refine ⟨fun q1 => ⟨fun q2 => bad ?_, fun q2 => ⟨fun q3 => ⟨by omega, by have := td36 ⟨q2, q3⟩; omega, td36 ⟨q2, q3⟩, mid ⟨q2, q3⟩⟩, fun q3 => bad ?_⟩⟩, fun q1 => ⟨by omega, fun q2 => ⟨fun q3 => bad ?_, fun q3 => ⟨fun q4 => by omega, fun q4 => bad ?_⟩⟩, fun q2 => ⟨by omega, by omega, fun q3 => good _ ?_ q3, fun q3 => bad ?_⟩⟩⟩
    · rw [if_neg (by omega), if_neg (by omega)]; omega
    · rw [if_neg (by omega), if_neg (by omega)]; omega
    · rw [if_neg (by omega), if_neg (by omega)]; omega
    · rw [if_neg (by omega), if_neg (by omega)]; omega
    · rw [if_pos ⟨q1, q2⟩]
    · rw [if_pos ⟨q1, q2⟩]; exact q3
  · show R 17 [ma_Rf 2 0, ma_I v1, ma_I v2, ma_Rf 111 0, ma_U] [ma_X 0] 2 μ
    refine g_LatticefitLaw_sourceOf_17 hR ⟨Nat.le_refl 2, hP 2 μ (fun Post2 h2 => ?_)⟩
    have fin := h2 (ma_I 0) _ T2 ma_up_eq (fun z => by omega)
    exact gi_LatticefitModel_sourceOf (fun R3 hR3 => s_LatticefitModel_sourceOf_0 (d := d + 8) hR3 ⟨fun _ => by omega, fun _ => ⟨fun _ => by omega, fun _ => ⟨fun _ => by omega, fun _ => ⟨fun _ => by omega, fun _ => ⟨fun q => absurd (by rw [s29, if_neg (by omega)]) q, fun _ => fin⟩⟩⟩⟩⟩)
