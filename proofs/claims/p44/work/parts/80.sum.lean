/-! sums of frames; check, isBad, scrub -/
def fl_len (f : Int) : Int := if f < 6 then 36 else if f < 12 then 26 else if f = 12 then 12 else 6
theorem fl_len_rng (f : Int) : 6 ≤ fl_len f ∧ fl_len f ≤ 36 := by unfold fl_len; repeat' split
                                                                  all_goals omega
def ck_sum (w : Int → Int) : Nat → Int
  | 0 => 1
  | i + 1 => (31 * ck_sum w i + w i) % 65521
theorem ck_sum_rng (w : Int → Int) : ∀ i, 0 ≤ ck_sum w i ∧ ck_sum w i < 65521
  | 0 => by show (0 : Int) ≤ 1 ∧ (1 : Int) < 65521; decide
  | i + 1 => by show 0 ≤ (31 * ck_sum w i + w i) % 65521 ∧ (31 * ck_sum w i + w i) % 65521 < 65521; omega
theorem ck_sum_cg {w v : Int → Int} : ∀ n : Nat, (∀ i : Int, 0 ≤ i → i < n → w i = v i) → ck_sum w n = ck_sum v n
  | 0, _ => rfl
  | n + 1, h => by
    show (31 * ck_sum w n + w n) % 65521 = (31 * ck_sum v n + v n) % 65521
    rw [ck_sum_cg n (fun i a b => h i a (by omega)), h n (by omega) (by omega)]
theorem sp_sum53 {LS d : Nat} {Post : ma_R → ma_M → Prop} {μ : ma_M} {f : Int} (f0 : 0 ≤ f) (f1 : f < 14) (hw : ∀ i : Int, 0 ≤ i → i < 36 → 0 ≤ μ 55 f i ∧ μ 55 f i ≤ 65535) (h : Post (.inl (some (ma_I (ck_sum (μ 55 f) (fl_len f).toNat)))) μ) :
    ma_Ox LS (d + 2) mi_Frames_sumOf [ma_Rf 53 0, ma_I f] μ Post := by
  have fr := fl_len_rng f
  refine gi_Frames_sumOf53 (fun R hR => ?_)
  have lp : ∀ (k i : Nat), (i : Int) + k = fl_len f → R 10 [ma_Rf 53 0, ma_I f, ma_I (ck_sum (μ 55 f) i), ma_I (fl_len f), ma_I i] [] 0 μ := by
    intro k
    induction k with
    | zero =>
      intro i hi
      refine s_Frames_sumOf53_10 hR ⟨fun _ => ?_, fun q => by omega⟩
      rw [show (fl_len f).toNat = i from by omega] at h; exact h
    | succ k ih =>
      intro i hi
      have r := ck_sum_rng (μ 55 f) i
      have w := hw i (by omega) (by omega)
      refine s_Frames_sumOf53_10 hR ⟨fun q => by omega, fun _ => ⟨by omega, by omega, by omega, by omega, by omega, ?_⟩⟩
      rw [tm_nn (by omega), show ((i : Nat) : Int) + 1 = ((i + 1 : Nat) : Int) from by omega]
      exact ih (i + 1) (by omega)
  have go := lp (fl_len f).toNat 0 (by omega)
  refine s_Frames_sumOf53_0 hR ⟨fun a => ⟨fun b => ⟨fun c => ?_, fun c => ?_⟩, fun b => ?_⟩, fun a => ?_⟩
  · rw [show fl_len f = 26 from by unfold fl_len; rw [if_neg (by omega), if_pos (by omega)]] at go; exact go
  · rw [show fl_len f = 12 from by unfold fl_len; rw [if_neg (by omega), if_neg (by omega), if_pos c]] at go; exact go
  · rw [show fl_len f = 6 from by unfold fl_len; rw [if_neg (by omega), if_neg (by omega), if_neg (by omega)]] at go; exact go
  · rw [show fl_len f = 36 from by unfold fl_len; rw [if_pos a]] at go; exact go
theorem sp_sum58 {LS d : Nat} {Post : ma_R → ma_M → Prop} {μ : ma_M} {f : Int} (f0 : 0 ≤ f) (f1 : f < 14) (hw : ∀ i : Int, 0 ≤ i → i < 36 → 0 ≤ μ 60 f i ∧ μ 60 f i ≤ 65535) (h : Post (.inl (some (ma_I (ck_sum (μ 60 f) (fl_len f).toNat)))) μ) :
    ma_Ox LS (d + 2) mi_Frames_sumOf [ma_Rf 58 0, ma_I f] μ Post := by
  have fr := fl_len_rng f
  refine gi_Frames_sumOf58 (fun R hR => ?_)
  have lp : ∀ (k i : Nat), (i : Int) + k = fl_len f → R 10 [ma_Rf 58 0, ma_I f, ma_I (ck_sum (μ 60 f) i), ma_I (fl_len f), ma_I i] [] 0 μ := by
    intro k
    induction k with
    | zero =>
      intro i hi
      refine s_Frames_sumOf58_10 hR ⟨fun _ => ?_, fun q => by omega⟩
      rw [show (fl_len f).toNat = i from by omega] at h; exact h
    | succ k ih =>
      intro i hi
      have r := ck_sum_rng (μ 60 f) i
      have w := hw i (by omega) (by omega)
      refine s_Frames_sumOf58_10 hR ⟨fun q => by omega, fun _ => ⟨by omega, by omega, by omega, by omega, by omega, ?_⟩⟩
      rw [tm_nn (by omega), show ((i : Nat) : Int) + 1 = ((i + 1 : Nat) : Int) from by omega]
      exact ih (i + 1) (by omega)
  have go := lp (fl_len f).toNat 0 (by omega)
  refine s_Frames_sumOf58_0 hR ⟨fun a => ⟨fun b => ⟨fun c => ?_, fun c => ?_⟩, fun b => ?_⟩, fun a => ?_⟩
  · rw [show fl_len f = 26 from by unfold fl_len; rw [if_neg (by omega), if_pos (by omega)]] at go; exact go
  · rw [show fl_len f = 12 from by unfold fl_len; rw [if_neg (by omega), if_neg (by omega), if_pos c]] at go; exact go
  · rw [show fl_len f = 6 from by unfold fl_len; rw [if_neg (by omega), if_neg (by omega), if_neg (by omega)]] at go; exact go
  · rw [show fl_len f = 36 from by unfold fl_len; rw [if_pos a]] at go; exact go
