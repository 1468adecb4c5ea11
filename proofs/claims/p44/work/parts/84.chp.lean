/-! the chip: codes behind wires -/
/-- the word behind a wire; the code after k wires; the code at the end -/
def ch_w (w : Int → Int → Int) (c : Int) : Int := w (6 + rl_lo ((c - 1) / 2) / 7) (rl_ix ((c - 1) / 2) + (c - 1) % 2)
def ch_at (w : Int → Int → Int) : Nat → Int → Int
  | 0, c => c
  | k + 1, c => if 1 ≤ c ∧ c ≤ 168 then ch_at w k (ch_w w c) else c
def ch_end (w : Int → Int → Int) (c : Int) : Int := if 1 ≤ ch_at w 200 c ∧ ch_at w 200 c ≤ 168 then 0 else ch_at w 200 c
theorem rl_lo_rng {e : Int} (h0 : 0 ≤ e) (h1 : e < 84) : 0 ≤ rl_lo e ∧ rl_lo e < 49 ∧ 0 ≤ rl_ix e ∧ rl_ix e < 26 := by
  unfold rl_ix rl_lo
  by_cases h : e < 42
  · rw [if_pos h, if_pos (.inl h)]; omega
  · rw [if_neg h]
    by_cases h2 : e < 42 ∨ 42 ≤ 7 * ((e - 42) / 6) + (e - 42) % 6
    · rw [if_pos h2]; omega
    · rw [if_neg h2]; omega
theorem sp_endOf {LS d : Nat} {Post : ma_R → ma_M → Prop} {μ : ma_M} {c : Int} (h : Post (.inl (some (ma_I (ch_end (μ 60) c)))) μ) :
    ma_Ox LS (d + 4) mi_Frames_endOf [ma_Rf 58 0, ma_I c] μ Post := by
  refine gi_Frames_endOf (fun R hR => s_Frames_endOf_0 (d := d) hR ?_)
  have lp : ∀ (k : Nat) (u v i : Int), i + k = 200 → 0 ≤ i → (Post (.inl (some (ma_I (if 1 ≤ ch_at (μ 60) k v ∧ ch_at (μ 60) k v ≤ 168 then 0 else ch_at (μ 60) k v)))) μ) → ∀ u : ma_V, R 4 [ma_Rf 58 0, u, ma_I v, ma_I i] [] 0 μ := by
    intro k
    induction k with
    | zero =>
      intro u v i hi i0 hp u
      refine s_Frames_endOf_4 hR ⟨fun _ => ⟨fun a => ?_, fun a => ⟨fun b => ?_, fun b => ?_⟩⟩, fun q => by omega⟩
      · rw [show ch_at (μ 60) 0 v = v from rfl, if_neg (by omega)] at hp; exact hp
      · rw [show ch_at (μ 60) 0 v = v from rfl, if_neg (by omega)] at hp; exact hp
      · rw [show ch_at (μ 60) 0 v = v from rfl, if_pos (by omega)] at hp; exact hp
    | succ k ih =>
      intro u v i hi i0 hp u
      have un : ch_at (μ 60) (k + 1) v = if 1 ≤ v ∧ v ≤ 168 then ch_at (μ 60) k (ch_w (μ 60) v) else v := rfl
      refine s_Frames_endOf_4 hR ⟨fun q => by omega, fun _ => ⟨fun a => ?_, fun a => ⟨fun b => ?_, fun b => ?_⟩⟩⟩
      · rw [un, if_neg (fun z => by omega), if_neg (by omega)] at hp; exact hp
      · rw [un, if_neg (fun z => by omega), if_neg (by omega)] at hp; exact hp
      · have un2 : ch_at (μ 60) (k + 1) v = ch_at (μ 60) k (ch_w (μ 60) v) := by rw [un, if_pos ⟨a, b⟩]
        rw [un2] at hp
        have nx : ∀ w : Int, w = ch_w (μ 60) v → R 4 [ma_Rf 58 0, ma_U, ma_I w, ma_I (i + 1)] [] 0 μ := fun w hw => ih 0 w (i + 1) (by omega) (by omega) (by rw [hw]; exact hp) _
        clear ih hp un un2
        have er := rl_lo_rng (e := (v - 1) / 2) (by omega) (by omega)
        unfold ch_w at nx
        rw [td_nn (a := v - 1) (by omega), tm_nn (a := v - 1) (by omega)]
        refine ⟨by omega, by omega, fun e => ?_, fun e => ?_⟩
        · rw [td_nn (a := (v - 1) / 2 - 42) (by omega), tm_nn (a := (v - 1) / 2 - 42) (by omega)]
          have el : rl_lo ((v - 1) / 2) = 7 * (((v - 1) / 2 - 42) / 6) + ((v - 1) / 2 - 42) % 6 := by unfold rl_lo; rw [if_neg (by omega)]
          rw [← el, td_nn (a := rl_lo ((v - 1) / 2)) (by omega), tm_nn (a := rl_lo ((v - 1) / 2)) (by omega)]
          have r := er.1
          have r2 := er.2.1
          refine ⟨by omega, by omega, by omega, by omega, by omega, by omega, by omega, fun q => ?_, fun q => ?_⟩
          · have ei : rl_ix ((v - 1) / 2) = 2 * (7 + rl_lo ((v - 1) / 2) % 7) := by unfold rl_ix; rw [if_neg (by omega)]
            rw [ei] at nx er
            exact ⟨by omega, by omega, by omega, by omega, by omega, nx _ rfl⟩
          · have ei : rl_ix ((v - 1) / 2) = 2 * (rl_lo ((v - 1) / 2) % 7) := by unfold rl_ix; rw [if_pos (by omega)]
            rw [ei] at nx er
            exact ⟨by omega, by omega, by omega, by omega, nx _ rfl⟩
        · have el : rl_lo ((v - 1) / 2) = (v - 1) / 2 := by unfold rl_lo; rw [if_pos (by omega)]
          have ei : rl_ix ((v - 1) / 2) = 2 * (rl_lo ((v - 1) / 2) % 7) := by unfold rl_ix; rw [if_pos (by omega)]
          rw [ei, el] at nx er
          rw [td_nn (a := (v - 1) / 2) (by omega), tm_nn (a := (v - 1) / 2) (by omega)]
          exact ⟨by omega, by omega, by omega, by omega, by omega, by omega, by omega, nx _ rfl⟩
  exact lp 200 0 c 0 (by omega) (by omega) h _
