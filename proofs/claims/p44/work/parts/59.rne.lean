/-! needed gates: the reference -/
theorem cu_need_congr {μ m : ma_M} (e3 : m 3 = μ 3) (e4 : m 4 = μ 4) (e5 : m 5 = μ 5) (e6 : m 6 = μ 6) (e7 : m 7 = μ 7) (e13 : m 13 = μ 13) (k : Nat) : cu_need m k ↔ cu_need μ k := by
  unfold cu_need cu_root cu_own
  rw [e3, e4, e5, e6, e7, e13]
theorem cu_wf_of {μ : ma_M} (H : rl_c μ) : cu_wf (μ 4 0) (μ 5 0) (μ 6 0) (μ 3 0 10).toNat := by
  obtain ⟨N0, N1, _, _, _, _, _, _, _, _, _, _, hn, _, _, _, _, _⟩ := H
  intro k hk hg
  obtain ⟨h1, h2, _, _, h5⟩ := hn k (by omega) (by omega)
  have := h5 (fun z => hg (.inl z)) (fun z => hg (.inr z))
  exact ⟨⟨this.2.1, this.2.2.1⟩, fun _ => ⟨this.2.2.2.2.1, this.2.2.2.2.2.1⟩⟩
/-- the good cuts of a circuit -/
theorem cu_T_of {μ : ma_M} (H : rl_c μ) (k : Nat) (hk : (k : Int) < μ 3 0 10) : cu_gd (μ 4 0) (μ 5 0) (μ 6 0) k (cu_T (μ 4 0) (μ 5 0) (μ 6 0) (μ 3 0 10).toNat k) :=
  cu_T_gd _ (by have := H.2.1; omega) (cu_wf_of H) k (by omega)
