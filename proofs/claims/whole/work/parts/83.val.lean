/-! the circuit's values; circuitOutput -/
def cv_eq (μ : ma_M) (v : Int → Int) (n : Int) : Int :=
  if μ 4 0 n = 105 then μ 61 0 (μ 10 0 n) else if μ 4 0 n = 114 then μ 67 0 n else if μ 4 0 n = 97 then (if v (μ 5 0 n) = 0 ∨ v (μ 6 0 n) = 0 then 0 else 1) else
  if μ 4 0 n = 111 then (if v (μ 5 0 n) = 0 ∧ v (μ 6 0 n) = 0 then 0 else 1) else if μ 4 0 n = 120 then (if v (μ 5 0 n) = v (μ 6 0 n) then 0 else 1) else (if v (μ 5 0 n) = 0 then 1 else 0)
def cv_ok (μ : ma_M) (v : Int → Int) (N : Int) : Prop := ∀ n : Int, 0 ≤ n → n < N → (v n = 0 ∨ v n = 1) ∧ v n = cv_eq μ v n
theorem cv_gate {μ : ma_M} (Hc : rl_c μ) {n : Int} (n0 : 0 ≤ n) (n1 : n < μ 3 0 10) (a : μ 4 0 n ≠ 105) (b : μ 4 0 n ≠ 114) : μ 71 0 n = μ 5 0 n ∧ 0 ≤ μ 5 0 n ∧ μ 5 0 n < n ∧ μ 72 0 n = μ 6 0 n ∧ 0 ≤ μ 6 0 n ∧ μ 6 0 n < n := by
  have := (Hc.2.2.2.2.2.2.2.2.2.2.2.2.1 n n0 n1).2.2.2.2 a b
  exact ⟨this.1, this.2.1, this.2.2.1, this.2.2.2.1, this.2.2.2.2.1, this.2.2.2.2.2.1⟩
theorem cv_cg {μ : ma_M} (Hc : rl_c μ) {v w : Int → Int} {n : Int} (n0 : 0 ≤ n) (n1 : n < μ 3 0 10) (h : ∀ k : Int, 0 ≤ k → k < n → v k = w k) : cv_eq μ v n = cv_eq μ w n := by
  unfold cv_eq
  by_cases a : μ 4 0 n = 105
  · rw [if_pos a, if_pos a]
  · by_cases b : μ 4 0 n = 114
    · rw [if_neg a, if_neg a, if_pos b, if_pos b]
    · have g := cv_gate Hc n0 n1 a b
      rw [h _ g.2.1 g.2.2.1, h _ g.2.2.2.2.1 g.2.2.2.2.2]
theorem cv_uniq {μ : ma_M} (Hc : rl_c μ) {v w : Int → Int} (hv : cv_ok μ v (μ 3 0 10)) (hw : cv_ok μ w (μ 3 0 10)) : ∀ n : Nat, (n : Int) < μ 3 0 10 → v n = w n := by
  intro n
  induction n using Nat.strongRecOn with
  | _ n ih =>
    intro hn
    rw [(hv n (by omega) hn).2, (hw n (by omega) hn).2]
    refine cv_cg Hc (by omega) hn (fun k k0 k1 => ?_)
    have := ih k.toNat (by omega) (by omega)
    rw [show ((k.toNat : Nat) : Int) = k from by omega] at this
    exact this
/-- the class's inputs and registers are bits -/
def cv_in (μ : ma_M) : Prop := (∀ j : Int, 0 ≤ j → j < 6 → μ 61 0 j = 0 ∨ μ 61 0 j = 1) ∧ (∀ i : Int, 0 ≤ i → i < μ 3 0 10 → μ 4 0 i = 114 → μ 67 0 i = 0 ∨ μ 67 0 i = 1)
theorem cv_in_of {μ : ma_M} (K : rl_k μ) : cv_in μ := ⟨fun j j0 j1 => (K.2.1 j j0 j1).2.1, fun i i0 i1 i2 => ((K.2.2.2.1 i i0 i1).2 i2).2⟩
theorem cv_01 {μ : ma_M} (Hc : rl_c μ) (Hi : cv_in μ) {v : Int → Int} {n : Int} (n0 : 0 ≤ n) (n1 : n < μ 3 0 10) : cv_eq μ v n = 0 ∨ cv_eq μ v n = 1 := by
  have hn := Hc.2.2.2.2.2.2.2.2.2.2.2.2.1 n n0 n1
  unfold cv_eq
  by_cases a : μ 4 0 n = 105
  · rw [if_pos a]
    have := hn.2.2.1 a
    exact Hi.1 _ this.2.1 (by have := Hc.2.2.2.1; omega)
  · rw [if_neg a]
    by_cases b : μ 4 0 n = 114
    · rw [if_pos b]; exact Hi.2 n n0 n1 b
    · rw [if_neg b]
      repeat' split
      all_goals omega
/-- one more value -/
theorem cv_up {μ : ma_M} (Hc : rl_c μ) (Hi : cv_in μ) {v v' : Int → Int} {n x : Int} (n0 : 0 ≤ n) (n1 : n < μ 3 0 10) (h : cv_ok μ v n) (h' : ∀ k : Int, v' k = if k = n then x else v k) (hx : x = cv_eq μ v n) : cv_ok μ v' (n + 1) := by
  intro k k0 k1
  have cg : cv_eq μ v' k = cv_eq μ v k := cv_cg Hc k0 (by omega) (fun j j0 j1 => by rw [h' j, if_neg (by omega)])
  rw [cg, h' k]
  by_cases e : k = n
  · rw [if_pos e, e, hx]; exact ⟨cv_01 Hc Hi n0 n1, rfl⟩
  · rw [if_neg e]; exact h k k0 (by omega)
theorem sp_findValues {LS d : Nat} {Post : ma_R → ma_M → Prop} {μ : ma_M} (Hc : rl_c μ) (Hi : cv_in μ)
    (h : ∀ m : ma_M, (∀ c : Nat, c ≠ 68 → m c = μ c) → cv_ok μ (m 68 0) (μ 3 0 10) → Post (.inl none) m) :
    ma_Ox LS (d + 2) mi_Runner_findValues [ma_Rf 66 0, ma_Rf 61 0] μ Post := by
  have N0 := Hc.1
  have N1 := Hc.2.1
  refine gi_Runner_findValues (fun R hR => s_Runner_findValues_0 hR ?_)
  refine ma_cnt (σ := ma_M) (N := μ 3 0 10) (P := fun i m => R 2 [ma_Rf 66 0, ma_Rf 61 0, ma_I i] [] 0 m) (I := fun n m => (∀ c : Nat, c ≠ 68 → m c = μ c) ∧ cv_ok μ (m 68 0) n) ?_ ?_ 0 μ (by omega) (by omega) ⟨fun _ _ => rfl, fun n a b => by omega⟩
  · intro n m n0 n1 ⟨a1, a2⟩ ih
    have em : ∀ c : Nat, c < 68 → m c = μ c := fun c hc => a1 c (by omega)
    have nx : ∀ x : Int, x = cv_eq μ (m 68 0) n → R 2 [ma_Rf 66 0, ma_Rf 61 0, ma_I (n + 1)] [] 0 (ma_up m 68 0 n x) := fun x hx => ih _ ⟨fun c hc => by rw [ma_up_ck hc]; exact a1 c hc, cv_up Hc Hi n0 n1 a2 (fun k => by simp [ma_up_rd]) hx⟩
    have hn := Hc.2.2.2.2.2.2.2.2.2.2.2.2.1 n n0 n1
    refine s_Runner_findValues_2 hR ⟨fun q => by rw [em 3 (by omega)] at q; omega, fun _ => ?_⟩
    rw [em 4 (by omega), em 5 (by omega), em 6 (by omega), em 10 (by omega), em 61 (by omega), em 67 (by omega)]
    refine ⟨by omega, fun k1 => ⟨fun k2 => ?_, fun k2 => ⟨by omega, nx _ (by unfold cv_eq; rw [if_neg k1, if_pos k2])⟩⟩, fun k1 => ⟨by have := hn.2.2.1 k1; have := Hc.2.2.2.1; omega, by omega, nx _ (by unfold cv_eq; rw [if_pos k1])⟩⟩
    have g := cv_gate Hc n0 n1 k1 k2
    have xa := (a2 _ g.2.1 g.2.2.1).1
    have xb := (a2 _ g.2.2.2.2.1 g.2.2.2.2.2).1
    unfold cv_eq at nx
    rw [if_neg k1, if_neg k2] at nx
    generalize m 68 0 (μ 5 0 n) = a at xa nx ⊢
    generalize m 68 0 (μ 6 0 n) = b at xb nx ⊢
    refine ⟨by omega, by omega, fun k3 => ⟨fun k4 => ⟨fun k5 => ⟨by omega, nx _ ?_⟩, fun k5 => ⟨by omega, nx _ ?_⟩⟩, fun k4 => ⟨by omega, nx _ ?_⟩⟩, fun k3 => ⟨by omega, nx _ ?_⟩⟩
    · rw [if_neg k3, if_neg k4, if_neg k5]; rcases xa with rfl | rfl <;> decide
    · rw [if_neg k3, if_neg k4, if_pos k5]; rcases xa with rfl | rfl <;> rcases xb with rfl | rfl <;> decide
    · rw [if_neg k3, if_pos k4]; rcases xa with rfl | rfl <;> rcases xb with rfl | rfl <;> decide
    · rw [if_pos k3]; rcases xa with rfl | rfl <;> rcases xb with rfl | rfl <;> decide
  · intro m ⟨a1, a2⟩
    exact s_Runner_findValues_2 hR ⟨fun _ => h m a1 a2, fun q => by rw [a1 3 (by decide)] at q; omega⟩
theorem sp_runs {LS d : Nat} {Post : ma_R → ma_M → Prop} {μ m0 : ma_M} (hv : ∀ c : Nat, 70 ≤ c → c < 106 → m0 c = μ c) (h8 : m0 69 0 8 = μ 69 0 8) (Hc : rl_c μ) (K : rl_k μ)
    (h : ∀ m : ma_M, (∀ c : Nat, c ≠ 106 → m c = m0 c) → cv_ok μ (m 106 0) (μ 3 0 10) → Post (.inl none) m) :
    ma_Ox LS (d + 2) mi_LatticefitModel_runs [ma_Rf 69 0] m0 Post := by
  have N0 := Hc.1
  have N1 := Hc.2.1
  have n8 := Hc.2.2.2.2.2.2.2.2.1
  have Hi := cv_in_of K
  refine gi_LatticefitModel_runs (fun R hR => s_LatticefitModel_runs_0 hR ?_)
  refine ma_cnt (σ := ma_M) (N := μ 3 0 10) (P := fun i m => R 2 [ma_Rf 69 0, ma_I i] [] 0 m) (I := fun n m => (∀ c : Nat, c ≠ 106 → m c = m0 c) ∧ cv_ok μ (m 106 0) n) ?_ ?_ 0 m0 (by omega) (by omega) ⟨fun _ _ => rfl, fun n a b => by omega⟩
  · intro n m n0 n1 ⟨a1, a2⟩ ih
    have em : ∀ c : Nat, 70 ≤ c → c < 106 → m c = μ c := fun c c1 c2 => (a1 c (by omega)).trans (hv c c1 c2)
    have nx : ∀ x : Int, x = cv_eq μ (m 106 0) n → R 2 [ma_Rf 69 0, ma_I (n + 1)] [] 0 (ma_up m 106 0 n x) := fun x hx => ih _ ⟨fun c hc => by rw [ma_up_ck hc]; exact a1 c hc, cv_up Hc Hi n0 n1 a2 (fun k => by simp [ma_up_rd]) hx⟩
    have hn := Hc.2.2.2.2.2.2.2.2.2.2.2.2.1 n n0 n1
    refine s_LatticefitModel_runs_2 hR ⟨fun q => by rw [a1 69 (by decide), h8] at q; omega, fun _ => ?_⟩
    rw [em 70 (by omega) (by omega), em 71 (by omega) (by omega), em 72 (by omega) (by omega), em 75 (by omega) (by omega), em 105 (by omega) (by omega), em 103 (by omega) (by omega), hn.1]
    refine ⟨by omega, fun k1 => ⟨fun k2 => ?_, fun k2 => ?_⟩, fun k1 => ?_⟩
    · have g := cv_gate Hc n0 n1 k1 k2
      rw [g.1, g.2.2.2.1]
      have xa := (a2 _ g.2.1 g.2.2.1).1
      have xb := (a2 _ g.2.2.2.2.1 g.2.2.2.2.2).1
      unfold cv_eq at nx
      rw [if_neg k1, if_neg k2] at nx
      generalize m 106 0 (μ 5 0 n) = a at xa nx ⊢
      generalize m 106 0 (μ 6 0 n) = b at xb nx ⊢
      refine ⟨by omega, by omega, fun k3 => ⟨fun k4 => ⟨fun k5 => ⟨fun z => ⟨by omega, nx _ ?_⟩, fun z => ⟨by omega, nx _ ?_⟩⟩, fun k5 => ⟨fun z => ⟨by omega, nx _ ?_⟩, fun z => ⟨by omega, nx _ ?_⟩⟩⟩, fun k4 => ⟨fun z => ⟨by omega, nx _ ?_⟩, fun z => ⟨fun y => ⟨by omega, nx _ ?_⟩, fun y => ⟨by omega, nx _ ?_⟩⟩⟩⟩, fun k3 => ⟨fun z => ⟨by omega, nx _ ?_⟩, fun z => ⟨fun y => ⟨by omega, nx _ ?_⟩, fun y => ⟨by omega, nx _ ?_⟩⟩⟩⟩
      · rw [if_neg k3, if_neg k4, if_neg k5, if_neg z]
      · rw [if_neg k3, if_neg k4, if_neg k5, if_pos z]
      · rw [if_neg k3, if_neg k4, if_pos k5, if_pos z]
      · rw [if_neg k3, if_neg k4, if_pos k5, if_neg z]
      · rw [if_neg k3, if_pos k4, if_neg (fun w => z w.1)]
      · rw [if_neg k3, if_pos k4, if_pos ⟨z, y⟩]
      · rw [if_neg k3, if_pos k4, if_neg (fun w => y w.2)]
      · rw [if_pos k3, if_pos (.inl z)]
      · rw [if_pos k3, if_pos (.inr y)]
      · rw [if_pos k3, if_neg (fun w => by rcases w with w | w; exact z w; exact y w)]
    · have t := (K.2.2.2.1 n n0 n1).2 k2
      rw [t.1]
      exact ⟨t.2, by omega, nx _ (by unfold cv_eq; rw [if_neg k1, if_pos k2])⟩
    · have t := hn.2.2.1 k1
      have j := K.2.1 (μ 10 0 n) t.2.1 (by have := Hc.2.2.2.1; omega)
      rw [t.1, j.1]
      exact ⟨by have := Hc.2.2.2.1; omega, j.2.1, by omega, nx _ (by unfold cv_eq; rw [if_pos k1])⟩
  · intro m ⟨a1, a2⟩
    exact s_LatticefitModel_runs_2 hR ⟨fun _ => h m a1 a2, fun q => by rw [a1 69 (by decide), h8] at q; omega⟩
theorem pr_circuitOutput {LS d : Nat} {μ : ma_M} (H : Rel μ) {v1 : Int} : Pr LS d mi_LatticefitLaw_circuitOutput [ma_Rf 2 0, ma_I v1, ma_Rf 111 0] mi_LatticefitModel_circuitOutput [ma_Rf 69 0, ma_I v1] agZ μ := by
  intro Post hP
  obtain ⟨Hc, Hs, Hz, Hu, Hm, Hr, Hf, Hk⟩ := id H
  have s29 := Hs.2.2.2.2.2
  have T1 := Rel_thrown H 1
  have T2 := Rel_thrown (Rel_thrown H 0) 2
  have HC := Hc
  obtain ⟨N0, N1, I0, I1, R0, R1, O0, O1, n8, n9, n10, n11, hn, _, hr, _, hrj, hoo⟩ := HC
  refine gi_LatticefitLaw_circuitOutput (fun R hR => s_LatticefitLaw_circuitOutput_0 (d := d + 8) hR ?_)
  refine gi_Latticefit_circuitOutput (fun R2 hR2 => s_Latticefit_circuitOutput_0 (d := d + 8) hR2 ?_)
  have L2 : (v1 < 0 ∨ μ 3 0 13 ≤ v1) → ma_ct (ma_Ox LS (d + 8 + 3)) (LS, [(0, 16, 19, 2), (0, 16, 22, 0)], 1, 2) 4 [ma_Rf 2 0, ma_I v1, ma_Rf 111 0, ma_U] [ma_I 0, ma_Rf 111 0] 2 mt_LatticefitLaw_circuitOutput_7 R (ma_DD (LS, [(0, 16, 19, 2), (0, 16, 22, 0)], 1, 2) Post) (.inr 2) μ := by
    intro hc
    show R 19 [ma_Rf 2 0, ma_I v1, ma_Rf 111 0, ma_U] [ma_X 2] 2 μ
    refine g_LatticefitLaw_circuitOutput_19 hR ⟨Nat.le_refl 2, hP 1 μ (fun Post2 h2 => ?_)⟩
    have fin := h2 (ma_I 0) _ T1 ma_up_eq (fun z => by omega)
    exact gi_LatticefitModel_circuitOutput (fun R3 hR3 => s_LatticefitModel_circuitOutput_0 (d := d + 8) hR3 ⟨by omega, fun _ => fin, fun _ => ⟨fun _ => fin, fun _ => by omega⟩⟩)
  refine ⟨fun a => L2 (.inl a), fun a => ⟨fun b => ⟨fun st => ?_, fun st => ?_⟩, fun b => L2 (.inr b)⟩⟩
  · have K := Hk st
    have o := hoo v1 a b
    obtain ⟨x, ex⟩ : ∃ x : Nat, μ 13 0 v1 = (x : Int) := ⟨(μ 13 0 v1).toNat, by omega⟩
    refine sp_findValues (d := d + 8) Hc (cv_in_of K) (fun m1 a1 a2 => ?_)
    have vx := a2 (μ 13 0 v1) o.2.1 o.2.2
    have key : m1 68 0 (μ 13 0 v1) = m1 68 0 (μ 13 0 v1) → Post (.inl (some (ma_I 0))) (ma_up m1 111 0 0 (m1 68 0 (μ 13 0 v1))) := by
      intro _
      refine hP 0 _ (fun Post2 h2 => ?_)
      have b1 : ∀ c : Nat, c ≠ 68 → c ≠ 111 → (ma_up m1 111 0 0 (m1 68 0 (μ 13 0 v1))) c = μ c := fun c c1 c2 => by rw [ma_up_ck c2]; exact a1 c c1
      have b2 : (ma_up m1 111 0 0 (m1 68 0 (μ 13 0 v1))) 111 0 0 = m1 68 0 (μ 13 0 v1) := ma_up_eq
      generalize ma_up m1 111 0 0 (m1 68 0 (μ 13 0 v1)) = M at b1 b2 ⊢
      have RM : Rel M := Rel_scr H (fun c hc => b1 c (by rintro rfl; revert hc; decide) (by rintro rfl; revert hc; decide)) (fun f _ => by rw [b1 69 (by decide) (by decide)])
      have RM0 := Rel_thrown (Rel_thrown RM 0) 0
      have em : ∀ c : Nat, c ≠ 68 → c ≠ 69 → c ≠ 111 → (ma_up (ma_up M 69 0 50 0) 69 0 50 0) c = μ c := fun c c0 c1 c2 => by rw [ma_up_ck c1, ma_up_ck c1, b1 c c0 c2]
      have M69 : M 69 = μ 69 := b1 69 (by decide) (by decide)
      refine gi_LatticefitModel_circuitOutput (fun R3 hR3 => s_LatticefitModel_circuitOutput_0 (d := d + 8) hR3 ⟨by rw [M69, n11]; omega, fun _ => by omega, fun _ => ⟨fun q => by rw [M69, n11] at q; omega, fun _ => ⟨fun _ => ?_, fun q => by rw [M69, s29, if_pos st] at q; omega⟩⟩⟩)
      refine sp_runs (d := d + 9) (μ := μ) (fun c c1 c2 => em c (by omega) (by omega) (by omega)) (by rw [ma_up_ne (by omega), ma_up_ne (by omega), M69]) Hc K (fun m2 d1 d2 => k_LatticefitModel_circuitOutput_15 hR3 ?_)
      have e76 : m2 76 0 v1 = μ 13 0 v1 := by rw [d1 76 (by decide), em 76 (by decide) (by decide) (by decide)]; exact o.1
      have ev : m2 106 0 (μ 13 0 v1) = m1 68 0 (μ 13 0 v1) := by
        have := cv_uniq Hc d2 a2 x (by omega)
        rw [ex]; exact this
      rw [e76, ev]
      refine ⟨by omega, by omega, vx.1, h2 _ m2 (Rel_scr RM0 (fun c hc => d1 c (by rintro rfl; revert hc; decide)) (fun f _ => by rw [d1 69 (by decide)])) (by rw [d1 69 (by decide)]; exact ma_up_eq) (fun _ => ⟨_, rfl, vx.1, ?_⟩)⟩
      rw [d1 111 (by decide), ma_up_ck (by decide), ma_up_ck (by decide)]; exact b2
    refine k_Latticefit_circuitOutput_16 hR2 ?_
    rw [a1 13 (by decide)]
    refine ⟨by omega, by omega, fun z => ?_, fun z => ?_⟩
    · have := key rfl
      rw [z] at this
      exact k_LatticefitLaw_circuitOutput_4 hR ⟨fun _ => ⟨by omega, this⟩, fun q => absurd rfl q⟩
    · have := key rfl
      rw [show m1 68 0 (μ 13 0 v1) = 1 from by rcases vx.1 with y | y; exact absurd y z; exact y] at this
      exact k_LatticefitLaw_circuitOutput_4 hR ⟨fun q => absurd q (by decide), fun _ => ⟨by omega, this⟩⟩
  · show R 22 [ma_Rf 2 0, ma_I v1, ma_Rf 111 0, ma_U] [ma_X 0] 2 μ
    refine g_LatticefitLaw_circuitOutput_22 hR ⟨Nat.le_refl 2, hP 2 μ (fun Post2 h2 => ?_)⟩
    have fin := h2 (ma_I 0) _ T2 ma_up_eq (fun z => by omega)
    exact gi_LatticefitModel_circuitOutput (fun R3 hR3 => s_LatticefitModel_circuitOutput_0 (d := d + 8) hR3 ⟨by omega, fun _ => by omega, fun _ => ⟨fun _ => by omega, fun _ => ⟨fun q => absurd (by rw [s29, if_neg (by omega)]) q, fun _ => fin⟩⟩⟩)
