/-! the circuit's calls -/
theorem sp_changes {LS d : Nat} {Post : ma_R → ma_M → Prop} {μ : ma_M} (h : ∀ μ' : ma_M, (∀ k : Nat, k ≠ 69 → k ≠ 96 → μ' k = μ k) → (∀ f : Int, f ≠ 26 → f ≠ 27 → f ≠ 28 → f ≠ 29 → μ' 69 0 f = μ 69 0 f) → μ' 69 0 26 = 0 → μ' 69 0 27 = 0 → μ' 69 0 28 = 0 → μ' 69 0 29 = 0 → (∀ e : Int, 0 ≤ e → e < 84 → μ' 96 0 e = 0) → Post (.inl none) μ') :
    ma_Ox LS (d + 2) mi_LatticefitModel_changes [ma_Rf 69 0] μ Post := by
  refine gi_LatticefitModel_changes (fun R hR => s_LatticefitModel_changes_0 hR ?_)
  refine ma_cnt (σ := ma_M) (N := 84) (P := fun i μ1 => R 11 [ma_Rf 69 0, ma_I i] [] 0 μ1) (I := fun i μ1 => (∀ k : Nat, k ≠ 69 → k ≠ 96 → μ1 k = μ k) ∧ (∀ f : Int, f ≠ 26 → f ≠ 27 → f ≠ 28 → f ≠ 29 → μ1 69 0 f = μ 69 0 f) ∧ μ1 69 0 26 = 0 ∧ μ1 69 0 27 = 0 ∧ μ1 69 0 28 = 0 ∧ μ1 69 0 29 = 0 ∧ (∀ e : Int, 0 ≤ e → e < i → μ1 96 0 e = 0)) ?_ ?_ 0 _ (by omega) (by omega) ?_
  · intro i μ1 h0 h1 ⟨h2, h3, h4, h5, h6, h7, h8⟩ ih
    refine s_LatticefitModel_changes_11 hR ⟨fun c => by omega, fun c => ⟨by omega, by omega, ih _ ⟨fun k k1 k2 => ?_, fun f f1 f2 f3 f4 => ?_, ?_, ?_, ?_, ?_, fun e e0 e1 => ?_⟩⟩⟩
    · rw [ma_up_ck k2]; exact h2 k k1 k2
    · rw [ma_up_ck (by decide)]; exact h3 f f1 f2 f3 f4
    · rw [ma_up_ck (by decide)]; exact h4
    · rw [ma_up_ck (by decide)]; exact h5
    · rw [ma_up_ck (by decide)]; exact h6
    · rw [ma_up_ck (by decide)]; exact h7
    · rw [ma_up_rd]
      split
      · rfl
      · exact h8 e e0 (by omega)
  · intro μ1 ⟨h2, h3, h4, h5, h6, h7, h8⟩
    exact s_LatticefitModel_changes_11 hR ⟨fun c => h μ1 h2 h3 h4 h5 h6 h7 h8, fun c => by omega⟩
  · refine ⟨fun k k1 k2 => ?_, fun f f1 f2 f3 f4 => ?_, rfl, rfl, rfl, rfl, fun e e0 e1 => by omega⟩
    · rw [ma_up_ck k1, ma_up_ck k1, ma_up_ck k1, ma_up_ck k1]
    · rw [ma_up_ne (by omega), ma_up_ne (by omega), ma_up_ne (by omega), ma_up_ne (by omega)]
/-- a call of the class through its wrapper, then the same call of the reference: the wrapper's answer is which exception; they agree, and the relation holds again -/
def Pr (LS d : Nat) (y1 : Nat) (a1 : List ma_V) (y2 : Nat) (a2 : List ma_V) (ag : ma_V → ma_M → Prop) (μ : ma_M) : Prop :=
  ∀ Post : ma_R → ma_M → Prop, (∀ (kk : Int) (μ1 : ma_M), (∀ Post2 : ma_R → ma_M → Prop, (∀ (v : ma_V) (μ2 : ma_M), Rel μ2 → μ2 69 0 50 = kk → (kk = 0 → ag v μ2) → Post2 (.inl (some v)) μ2) → ma_Ox LS (d + 12) y2 a2 μ1 Post2) → Post (.inl (some (ma_I kk))) μ1) → ma_Ox LS (d + 12) y1 a1 μ Post
def agI (v : ma_V) (μ : ma_M) : Prop := ∃ b : Int, v = ma_I b ∧ μ 111 0 0 = b
def agZ (v : ma_V) (μ : ma_M) : Prop := ∃ b : Int, v = ma_I b ∧ (b = 0 ∨ b = 1) ∧ μ 111 0 0 = b
def agL (v : ma_V) (μ : ma_M) : Prop := ∃ b : Int, v = ma_L b ∧ μ 111 0 0 = b
/-- the number of the exception alone has changed -/
theorem Rel_thrown {μ : ma_M} (H : Rel μ) (t : Int) : Rel (ma_up μ 69 0 50 t) := by
  obtain ⟨h1, h2, h3, h4, h5, h6, h7, h8⟩ := H
  have hc : ∀ k : Nat, k ≠ 69 → ma_up μ 69 0 50 t k = μ k := fun k hk => ma_up_ck hk
  have hf : ∀ f : Int, f ≠ 50 → ma_up μ 69 0 50 t 69 0 f = μ 69 0 f := fun f hf => ma_up_ne (by omega)
  refine ⟨rl_c_congr (fun k hk => hc k ?_) (fun f hf' => hf f ?_) h1, rl_s_congr (fun k hk => hc k ?_) (fun f hf' => hf f ?_) h2, rl_z_congr (fun k hk => hc k ?_) (fun f hf' => hf f ?_) h3, rl_u_congr (fun k hk => hc k ?_) h4, fun z => ⟨rl_m_congr (fun k hk => hc k ?_) (fun f hf' => hf f ?_) (h5 z).1, rl_p_congr (fun k hk => hc k ?_) (h5 z).2⟩, fun z => rl_r_congr (fun k hk => hc k ?_) (h6 z), fun z => rl_f_congr (fun k hk => hc k ?_) (h7 z), fun z => rl_k_congr (fun k hk => hc k ?_) (fun f hf' => hf f ?_) (h8 z)⟩
  all_goals first | (rintro rfl; revert hk; decide) | (rintro rfl; revert hf'; decide)
