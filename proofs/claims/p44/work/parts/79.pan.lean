/-! anneal, both -/
theorem an_xx {c : Int} {s : an_Pl} {a b : Int} (H : cu_pl c s.1 s.2) (a0 : 0 ≤ a) (a1 : a < 36) (b0 : 0 ≤ b) (b1 : b < 36) : an_x (an_x s a b) a b = s := by
  obtain ⟨p, q⟩ := s
  simp only at H
  have A := H.2 a a0 a1
  have B := H.2 b b0 b1
  have pa : cu_xp p a b a = p b := by
    unfold cu_xp
    by_cases e : a = b
    · rw [if_pos e, e]
    · rw [if_neg e, if_pos rfl]
  have pb : cu_xp p a b b = p a := by unfold cu_xp; rw [if_pos rfl]
  unfold an_x
  refine Prod.ext ?_ ?_
  · funext x
    show cu_xp (cu_xp p a b) a b x = p x
    by_cases e : x = b
    · rw [e]; show (if b = b then cu_xp p a b a else _) = _; rw [if_pos rfl, pa]
    · by_cases e2 : x = a
      · rw [e2] at e ⊢; show (if a = b then _ else if a = a then cu_xp p a b b else _) = _; rw [if_neg e, if_pos rfl, pb]
      · show (if x = b then _ else if x = a then _ else (if x = b then _ else if x = a then _ else p x)) = _
        rw [if_neg e, if_neg e2, if_neg e, if_neg e2]
  · funext k
    show cu_xq (cu_xp p a b) (cu_xq p q a b) a b k = q k
    unfold cu_xq
    rw [pa, pb]
    by_cases e1 : 0 ≤ p b ∧ k = p b
    · rw [if_pos e1, e1.2, B.2.2 e1.1]
    · rw [if_neg e1]
      by_cases e2 : 0 ≤ p a ∧ k = p a
      · rw [if_pos e2, e2.2, A.2.2 e2.1]
      · rw [if_neg e2, if_neg e2, if_neg e1]
theorem an_N0 {μ : ma_M} {x : Int} {g : Nat → Bool} (x0 : 0 ≤ x) (x1 : x < 2147483648) (H : cu_pl (μ 21 0 7) (μ 33 0) (μ 32 0)) : ∀ i, an_N μ x g i = 0 → an_S μ x g i = (μ 33 0, μ 32 0)
  | 0, _ => rfl
  | i + 1, h => by
    have nr := (an_N_rng μ x g i).1
    rw [an_N_succ] at h
    have r := an_X_rng x0 x1 i
    have r1 := cu_nx_rng r.1 r.2
    have r2 := cu_nx_rng r1.1 r1.2
    have c := cu_tl_rng r1.1 r1.2
    have d := cu_tl_rng r2.1 r2.2
    by_cases e : an_can μ (an_S μ x g i).1 (an_c x i) (an_d x i) ∧ g i = true
    · rw [if_pos e] at h; omega
    · rw [if_neg e] at h
      have ih := an_N0 (g := g) x0 x1 H i (by omega)
      rw [an_S_succ]
      split
      · rename_i hc
        rw [if_neg (fun z => e ⟨hc, z⟩)]
        exact (an_xx (a := an_c x i) (b := an_d x i) (an_S_pl x0 x1 H i) c.1 c.2 d.1 d.2).trans ih
      · exact ih
