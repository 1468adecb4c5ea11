/-! wireOf -/
def wr_h (μ : ma_M) (n e : Int) : Prop := μ 42 n (rl_lo e) = e ∨ μ 42 n (rl_hi e) = e
theorem wr_hi1 {e : Int} (h : 42 ≤ e) : rl_hi e = rl_lo e + 1 := by unfold rl_hi; rw [if_neg (by omega)]
theorem wr_hi7 {e : Int} (h : e < 42) : rl_hi e = e + 7 ∧ rl_lo e = e := by unfold rl_hi rl_lo; rw [if_pos h, if_pos h]; exact ⟨rfl, rfl⟩
theorem wr_lo1 {e : Int} (h : 42 ≤ e) : 7 * Int.tdiv (e - 42) 6 + Int.tmod (e - 42) 6 = rl_lo e := by
  rw [td_nn (a := e - 42) (by omega), tm_nn (a := e - 42) (by omega)]; unfold rl_lo; rw [if_neg (by omega)]
theorem wr_ct {μ : ma_M} {e : Int} (n : Nat) : 0 ≤ rl_ct μ e n ∧ rl_ct μ e n ≤ n := by
  have := ma_sum_rng (f := fun i => if μ 42 i (rl_lo e) = e ∨ μ 42 i (rl_hi e) = e then 1 else 0) (b := 1) n (fun j _ _ => by
    show 0 ≤ (if μ 42 j (rl_lo e) = e ∨ μ 42 j (rl_hi e) = e then 1 else 0) ∧ _ ≤ _
    split <;> omega)
  unfold rl_ct; omega
theorem wr_ct1 {μ : ma_M} {e : Int} (n : Nat) : (wr_h μ n e → rl_ct μ e (n + 1) = rl_ct μ e n + 1) ∧ (¬ wr_h μ n e → rl_ct μ e (n + 1) = rl_ct μ e n) := by
  have un : rl_ct μ e (n + 1) = rl_ct μ e n + (if μ 42 n (rl_lo e) = e ∨ μ 42 n (rl_hi e) = e then 1 else 0) := rfl
  rw [un]
  unfold wr_h
  exact ⟨fun h => by rw [if_pos h], fun h => by rw [if_neg h]; omega⟩
theorem sp_wire {LS d : Nat} {Post : ma_R → ma_M → Prop} {μ : ma_M} {e : Int} {n : Nat} (e0 : 0 ≤ e) (e1 : e < 84) (n1 : n ≤ 48) (h : Post (.inl (some (ma_I (rl_ct μ e n)))) μ) : ma_Ox LS (d + 4) mi_Routes_wire [ma_Rf 40 0, ma_I n, ma_I e] μ Post := by
  refine gi_Routes_wire (fun R hR => s_Routes_wire_0 (d := d) hR ?_)
  have lo := rl_lo_rng e0 e1
  have hi := rl_hi_rng e0 e1
  have lp : ∀ (k i : Nat), i + k = n → R 5 [ma_Rf 40 0, ma_I n, ma_I e, ma_I (rl_ct μ e i), ma_I i] [] 0 μ := by
    intro k
    induction k with
    | zero =>
      intro i hi
      refine s_Routes_wire_5 hR ⟨fun _ => ?_, fun q => by omega⟩
      rw [show i = n from by omega]; exact h
    | succ k ih =>
      intro i hii
      have ct := wr_ct (μ := μ) (e := e) i
      have ct1 := wr_ct1 (μ := μ) (e := e) i
      have nx := ih (i + 1) (by omega)
      have Y : wr_h μ i e → (-2147483648 ≤ (rl_ct μ e i + 1) ∧ (rl_ct μ e i + 1) < 2147483648) ∧ (-2147483648 ≤ ((i : Int) + 1) ∧ ((i : Int) + 1) < 2147483648) ∧ R 5 [ma_Rf 40 0, ma_I n, ma_I e, ma_I (rl_ct μ e i + 1), ma_I ((i : Int) + 1)] [] 0 μ := fun w => by
        rw [ct1.1 w] at nx; exact ⟨by omega, by omega, nx⟩
      have N : ¬ wr_h μ i e → (-2147483648 ≤ (rl_ct μ e i + 0) ∧ (rl_ct μ e i + 0) < 2147483648) ∧ (-2147483648 ≤ ((i : Int) + 1) ∧ ((i : Int) + 1) < 2147483648) ∧ R 5 [ma_Rf 40 0, ma_I n, ma_I e, ma_I (rl_ct μ e i + 0), ma_I ((i : Int) + 1)] [] 0 μ := fun w => by
        rw [ct1.2 w] at nx; exact ⟨by omega, by omega, by rw [Int.add_zero]; exact nx⟩
      unfold wr_h at Y N
      refine s_Routes_wire_5 hR ⟨fun q => by omega, fun _ => ⟨fun p => ?_, fun p => ?_⟩⟩
      · rw [wr_lo1 p, td_nn (a := e - 42) (by omega)]
        rw [wr_hi1 p] at Y N hi
        exact ⟨by omega, by omega, by omega, by omega, by omega, by omega, fun q => Y (.inl q), fun q => ⟨by omega, fun z => absurd rfl z, fun _ => ⟨by omega, fun r => N (fun z => by rcases z with z | z; exact q z; exact r z), fun r => Y (.inr r)⟩⟩⟩
      · have h7 := wr_hi7 p
        rw [h7.1, h7.2] at Y N
        exact ⟨by omega, by omega, fun q => Y (.inl q), fun q => ⟨by omega, fun z => absurd rfl z, fun _ => ⟨by omega, fun r => N (fun z => by rcases z with z | z; exact q z; exact r z), fun r => Y (.inr r)⟩⟩⟩
  exact lp n 0 (by omega)
/-- the reference has the edge of a net -/
theorem wr_ref {μ : ma_M} {n e : Int} (H : rl_t μ n) (e0 : 0 ≤ e) (e1 : e < 84) : (μ 92 0 n = 0 → ¬ wr_h μ n e) ∧ (¬ μ 92 0 n = 0 → (¬ μ 91 0 (n * 84 + e) = 0 ↔ wr_h μ n e)) := by
  obtain ⟨h1, -, hx, he, -⟩ := H
  have lo := rl_lo_rng e0 e1
  have hi := rl_hi_rng e0 e1
  have E := he e e0 e1
  refine ⟨fun z w => ?_, fun z => ?_⟩
  · have a := (hx (rl_lo e) (by omega) (by omega)).2.2.1 z
    have b := (hx (rl_hi e) (by omega) (by omega)).2.2.1 z
    rcases w with w | w <;> omega
  · unfold wr_h
    rw [← E.2.1 (by omega)]
    omega
theorem sp_wireR {LS d : Nat} {Post : ma_R → ma_M → Prop} {μ m : ma_M} {e : Int} {n : Nat} (hm : m 91 = μ 91 ∧ m 92 = μ 92) (e0 : 0 ≤ e) (e1 : e < 84) (n1 : n ≤ 48) (ht : ∀ i : Int, 0 ≤ i → i < n → rl_t μ i) (h : Post (.inl (some (ma_I (rl_ct μ e n)))) m) : ma_Ox LS (d + 1) mi_LatticefitModel_wire [ma_Rf 69 0, ma_I n, ma_I e] m Post := by
  refine gi_LatticefitModel_wire (fun R hR => s_LatticefitModel_wire_0 (d := d) hR ?_)
  have lp : ∀ (k i : Nat), i + k = n → R 5 [ma_Rf 69 0, ma_I n, ma_I e, ma_I (rl_ct μ e i), ma_I i] [] 0 m := by
    intro k
    induction k with
    | zero =>
      intro i hi
      refine s_LatticefitModel_wire_5 hR ⟨fun _ => ?_, fun q => by omega⟩
      rw [show i = n from by omega]; exact h
    | succ k ih =>
      intro i hii
      have ct := wr_ct (μ := μ) (e := e) i
      have ct1 := wr_ct1 (μ := μ) (e := e) i
      have nx := ih (i + 1) (by omega)
      have rf := wr_ref (ht i (by omega) (by omega)) e0 e1
      have N : ¬ wr_h μ i e → R 5 [ma_Rf 69 0, ma_I n, ma_I e, ma_I (rl_ct μ e i + 0), ma_I ((i : Int) + 1)] [] 0 m := fun w => by
        rw [ct1.2 w] at nx; rw [Int.add_zero]; exact nx
      refine s_LatticefitModel_wire_5 hR ⟨fun q => by omega, fun _ => ?_⟩
      rw [hm.1, hm.2]
      refine ⟨by omega, fun p => ⟨by omega, by omega, N (rf.1 p)⟩, fun p => ⟨by omega, by omega, by omega, fun q => ⟨by omega, by omega, N (fun z => (rf.2 p).2 z q)⟩, fun q => ⟨by omega, by omega, ?_⟩⟩⟩
      rw [ct1.1 ((rf.2 p).1 q)] at nx; exact nx
  exact lp n 0 (by omega)
theorem pr_wireOf {LS d : Nat} {μ : ma_M} (H : Rel μ) {v1 v2 : Int} : Pr LS d mi_LatticefitLaw_wireOf [ma_Rf 2 0, ma_I v1, ma_I v2, ma_Rf 111 0] mi_LatticefitModel_wireOf [ma_Rf 69 0, ma_I v1, ma_I v2] agI μ := by
  intro Post hP
  obtain ⟨Hc, Hs, Hz, Hu, Hm, Hr, Hf, Hk⟩ := id H
  have s27 := Hs.2.2.2.1
  have T1 := Rel_thrown H 1
  have T2 := Rel_thrown (Rel_thrown H 0) 2
  have T3 := Rel_thrown (Rel_thrown (Rel_thrown H 0) 0) 3
  have N0 := Hc.1
  have N1 := Hc.2.1
  have n8 := Hc.2.2.2.2.2.2.2.2.1
  refine gi_LatticefitLaw_wireOf (fun R hR => s_LatticefitLaw_wireOf_0 (d := d + 6) hR ?_)
  refine gi_Latticefit_wireOf (fun R2 hR2 => s_Latticefit_wireOf_0 (d := d + 6) hR2 ?_)
  have L2 : (v1 < 0 ∨ μ 3 0 10 ≤ v1 ∨ v2 < 0 ∨ 84 ≤ v2) → ma_ct (ma_Ox LS (d + 6 + 5)) (LS, [(0, 10, 13, 2), (0, 10, 17, 0), (0, 10, 21, 4)], 1, 2) 5 [ma_Rf 2 0, ma_I v1, ma_I v2, ma_Rf 111 0, ma_U] [ma_I 0, ma_Rf 111 0] 2 mt_LatticefitLaw_wireOf_8 R (ma_DD (LS, [(0, 10, 13, 2), (0, 10, 17, 0), (0, 10, 21, 4)], 1, 2) Post) (.inr 2) μ := by
    intro hc
    show R 13 [ma_Rf 2 0, ma_I v1, ma_I v2, ma_Rf 111 0, ma_U] [ma_X 2] 2 μ
    refine g_LatticefitLaw_wireOf_13 hR ⟨Nat.le_refl 2, hP 1 μ (fun Post2 h2 => ?_)⟩
    have fin := h2 (ma_I 0) _ T1 ma_up_eq (fun z => by omega)
    exact gi_LatticefitModel_wireOf (fun R3 hR3 => s_LatticefitModel_wireOf_0 (d := d + 10) hR3 ⟨by omega, fun _ => fin, fun _ => ⟨fun _ => fin, fun _ => ⟨fun _ => fin, fun _ => ⟨fun _ => fin, fun _ => by omega⟩⟩⟩⟩)
  refine ⟨fun a => L2 (by omega), fun a => ⟨fun b => L2 (by omega), fun b => ⟨fun e => L2 (by omega), fun e => ⟨fun f => L2 (by omega), fun f => ⟨fun st => ?_, fun st => ?_⟩⟩⟩⟩⟩
  · obtain ⟨hr1, hr2⟩ := Hr st
    obtain ⟨n, rfl⟩ : ∃ n : Nat, v1 = (n : Int) := ⟨v1.toNat, by omega⟩
    have rf := wr_ref (hr1 n a b) e f
    have ref : ∀ (M : ma_M), (∀ c : Nat, c ≠ 111 → M c = μ c) → ∀ Post2 : ma_R → ma_M → Prop, (wr_h μ n v2 → Post2 (.inl (some (ma_I (rl_ct μ v2 n)))) (ma_up (ma_up (ma_up M 69 0 50 0) 69 0 50 0) 69 0 50 0)) → (¬ wr_h μ n v2 → Post2 (.inl (some (ma_I 0))) (ma_up (ma_up (ma_up M 69 0 50 0) 69 0 50 0) 69 0 50 3)) → ma_Ox LS (d + 12) mi_LatticefitModel_wireOf [ma_Rf 69 0, ma_I n, ma_I v2] M Post2 := by
      intro M hM Post2 p1 p2
      have M69 : M 69 = μ 69 := hM 69 (by decide)
      refine gi_LatticefitModel_wireOf (fun R3 hR3 => s_LatticefitModel_wireOf_0 (d := d + 10) hR3 ?_)
      rw [M69, hM 91 (by decide), hM 92 (by decide)]
      refine ⟨by omega, fun _ => by omega, fun _ => ⟨fun _ => by omega, fun _ => ⟨fun _ => by omega, fun _ => ⟨fun _ => by omega, fun _ => ⟨fun _ => ⟨by omega, fun p => p2 (rf.1 p), fun p => ⟨by omega, by omega, by omega, fun q => ?_, fun q => p2 (fun z => (rf.2 p).2 z q)⟩⟩, fun q => by rw [s27, if_pos st] at q; omega⟩⟩⟩⟩⟩
      refine sp_wireR (d := d + 10) (μ := μ) ⟨by rw [ma_up_ck (by decide), ma_up_ck (by decide), ma_up_ck (by decide)]; exact hM 91 (by decide), by rw [ma_up_ck (by decide), ma_up_ck (by decide), ma_up_ck (by decide)]; exact hM 92 (by decide)⟩ e f (by omega) (fun i i0 i1 => hr1 i i0 (by omega)) (k_LatticefitModel_wireOf_102 hR3 (p1 ((rf.2 p).1 q)))
    have N : ¬ wr_h μ n v2 → ma_ct (ma_Ox LS (d + 6 + 5)) (LS, [(0, 10, 13, 2), (0, 10, 17, 0), (0, 10, 21, 4)], 1, 2) 5 [ma_Rf 2 0, ma_I n, ma_I v2, ma_Rf 111 0, ma_U] [ma_I 0, ma_Rf 111 0] 2 mt_LatticefitLaw_wireOf_8 R (ma_DD (LS, [(0, 10, 13, 2), (0, 10, 17, 0), (0, 10, 21, 4)], 1, 2) Post) (.inr 4) μ := by
      intro w
      show R 21 [ma_Rf 2 0, ma_I n, ma_I v2, ma_Rf 111 0, ma_U] [ma_X 4] 2 μ
      refine g_LatticefitLaw_wireOf_21 hR ⟨Nat.le_refl 2, hP 3 μ (fun Post2 h2 => ?_)⟩
      exact ref μ (fun _ _ => rfl) Post2 (fun z => absurd z w) (fun _ => h2 (ma_I 0) _ T3 ma_up_eq (fun z => by omega))
    have Y : wr_h μ n v2 → ma_Ox LS (d + 6 + 4) mi_Routes_wire [ma_Rf 40 0, ma_I n, ma_I v2] μ (ma_ct (ma_Ox LS (d + 6 + 4)) (LS, [], 1, 2) 57 [ma_Rf 2 0, ma_I n, ma_I v2] [] 1 mt_Latticefit_wireOf_60 R2 (ma_DD (LS, [], 1, 2) (ma_ct (ma_Ox LS (d + 6 + 5)) (LS, [(0, 10, 13, 2), (0, 10, 17, 0), (0, 10, 21, 4)], 1, 2) 5 [ma_Rf 2 0, ma_I n, ma_I v2, ma_Rf 111 0, ma_U] [ma_I 0, ma_Rf 111 0] 2 mt_LatticefitLaw_wireOf_8 R (ma_DD (LS, [(0, 10, 13, 2), (0, 10, 17, 0), (0, 10, 21, 4)], 1, 2) Post)))) := by
      intro w
      refine sp_wire (d := d + 6) e f (by omega) (k_Latticefit_wireOf_57 hR2 (k_LatticefitLaw_wireOf_5 hR ⟨by omega, hP 0 _ (fun Post2 h2 => ?_)⟩))
      have RM : Rel (ma_up μ 111 0 0 (rl_ct μ v2 n)) := Rel_scr H (fun c hc => ma_up_ck (by rintro rfl; revert hc; decide)) (fun f _ => by rw [ma_up_ck (by decide)])
      refine ref _ (fun c hc => ma_up_ck hc) Post2 (fun _ => ?_) (fun z => absurd w z)
      exact h2 _ _ (Rel_thrown (Rel_thrown (Rel_thrown RM 0) 0) 0) ma_up_eq (fun _ => ⟨_, rfl, by rw [ma_up_ck (by decide), ma_up_ck (by decide), ma_up_ck (by decide), ma_up_eq]⟩)
    clear ref
    have lo := rl_lo_rng e f
    have hi := rl_hi_rng e f
    unfold wr_h at Y N
    refine ⟨fun p => ?_, fun p => ?_⟩
    · rw [wr_lo1 p, td_nn (a := v2 - 42) (by omega)]
      rw [wr_hi1 p] at Y N hi
      exact ⟨by omega, by omega, by omega, by omega, by omega, by omega, fun q => Y (.inl q), fun q => ⟨by omega, fun z => absurd rfl z, fun _ => ⟨by omega, fun r => N (fun z => by rcases z with z | z; exact q z; exact r z), fun r => Y (.inr r)⟩⟩⟩
    · have h7 := wr_hi7 p
      rw [h7.1, h7.2] at Y N
      exact ⟨by omega, by omega, fun q => Y (.inl q), fun q => ⟨by omega, fun z => absurd rfl z, fun _ => ⟨by omega, fun r => N (fun z => by rcases z with z | z; exact q z; exact r z), fun r => Y (.inr r)⟩⟩⟩
  · show R 17 [ma_Rf 2 0, ma_I v1, ma_I v2, ma_Rf 111 0, ma_U] [ma_X 0] 2 μ
    refine g_LatticefitLaw_wireOf_17 hR ⟨Nat.le_refl 2, hP 2 μ (fun Post2 h2 => ?_)⟩
    have fin := h2 (ma_I 0) _ T2 ma_up_eq (fun z => by omega)
    exact gi_LatticefitModel_wireOf (fun R3 hR3 => s_LatticefitModel_wireOf_0 (d := d + 10) hR3 ⟨by omega, fun _ => by omega, fun _ => ⟨fun _ => by omega, fun _ => ⟨fun _ => by omega, fun _ => ⟨fun _ => by omega, fun _ => ⟨fun q => absurd (by rw [s27, if_neg (by omega)]) q, fun _ => fin⟩⟩⟩⟩⟩)
