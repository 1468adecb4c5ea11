/-! the class finds the cuts of all nodes -/
theorem sp_offerAll {LS d : Nat} {Post : ma_R → ma_M → Prop} {μ : ma_M} {D : Nat → Nat} {n a b : Nat} {La Lb : cu_Ls} {f0 : Nat → Nat} (hn : n < 48) (ha : a < n) (ea : μ 5 0 n = (a : Int)) (eb : μ 6 0 n = (b : Int)) (hb : μ 4 0 n ≠ 110 → b < n) (hLa : cu_C D μ a La) (hLb : μ 4 0 n ≠ 110 → cu_C D μ b Lb) (ga : La.1 ≤ 7 ∧ ∀ i, i < La.1 → La.2 i < 2 ^ n) (gb : Lb.1 ≤ 7 ∧ ∀ i, i < Lb.1 → Lb.2 i < 2 ^ n) (h0 : cu_C D μ n (0, f0))
    (h : ∀ m : ma_M, cu_f1 μ n m → cu_C D m n (cu_all D (μ 4 0 n = 110) La.2 Lb La.1) → Post (.inl none) m) :
    ma_Ox LS (d + 4) mi_Cuts_offerAll [ma_Rf 14 0, ma_I n] μ Post := by
  have base : cu_C D μ n (cu_all D (μ 4 0 n = 110) La.2 Lb 0) := ⟨h0.1, fun i hi => absurd hi (Nat.not_lt_zero i)⟩
  have okA : ∀ i, i ≤ La.1 → cu_ok D n (cu_all D (μ 4 0 n = 110) La.2 Lb i) := fun i hi => cu_all_ok (by omega) gb.2 i (fun k hk => ga.2 k (by omega))
  have kd : ∀ m, cu_f1 μ n m → m 4 0 n = μ 4 0 n := fun m hm => by rw [hm.1 4 (by decide) (by decide) (by decide)]
  refine gi_Cuts_offerAll (fun R hR => ?_)
  -- single
  have one : μ 4 0 n = 110 → ∀ (k i : Nat) (u6 : ma_V) (m : ma_M), i + k = La.1 → cu_f1 μ n m → cu_C D m n (cu_all D (μ 4 0 n = 110) La.2 Lb i) → R 44 [ma_Rf 14 0, ma_I n, ma_I a, ma_I b, ma_I 1, ma_I i, u6] [] 0 m := by
    intro hk k
    induction k with
    | zero =>
      intro i u6 m hi hf hc
      have hA := cu_C_f1 hf (by omega) hLa
      refine s_Cuts_offerAll_44 hR ⟨by omega, fun _ => h m hf ?_, fun q => ?_⟩
      · rw [show La.1 = i from by omega]; exact hc
      · have := hA.1; omega
    | succ k ih =>
      intro i u6 m hi hf hc
      have hA := cu_C_f1 hf (by omega) hLa
      obtain ⟨r1, r2⟩ := hA.2 i (by omega)
      refine s_Cuts_offerAll_44 hR ⟨by omega, fun q => ?_, fun q => ⟨fun z => by omega, fun _ => ⟨by omega, ?_⟩⟩⟩
      · have := hA.1; omega
      · rw [r1, r2]
        refine sp_offer hn hc (okA i (by omega)) (ga.2 i (by omega)) rfl (fun m' hf' hc' => ?_)
        refine k_Cuts_offerAll_80 hR ⟨by omega, ?_⟩
        rw [show ((i : Nat) : Int) + 1 = ((i + 1 : Nat) : Int) from by omega]
        refine ih (i + 1) _ m' (by omega) (cu_f1_trans hf hf') ?_
        rw [cu_all_succ, if_pos hk]; exact hc'
  have two : μ 4 0 n ≠ 110 → ∀ (k i : Nat) (u6 : ma_V) (m : ma_M), i + k = La.1 → cu_f1 μ n m → cu_C D m n (cu_all D (μ 4 0 n = 110) La.2 Lb i) → R 44 [ma_Rf 14 0, ma_I n, ma_I a, ma_I b, ma_I 0, ma_I i, u6] [] 0 m := by
    intro hk k
    have hbn := hb hk
    induction k with
    | zero =>
      intro i u6 m hi hf hc
      have hA := cu_C_f1 hf (by omega) hLa
      refine s_Cuts_offerAll_44 hR ⟨by omega, fun _ => h m hf ?_, fun q => ?_⟩
      · rw [show La.1 = i from by omega]; exact hc
      · have := hA.1; omega
    | succ k ih =>
      intro i u6 m hi hf hc
      have hA := cu_C_f1 hf (by omega) hLa
      refine s_Cuts_offerAll_44 hR ⟨by omega, fun q => by have := hA.1; omega, fun q => ⟨fun _ => ?_, fun z => absurd rfl z⟩⟩
      have inner : ∀ (k' j : Nat) (m : ma_M), j + k' = Lb.1 → cu_f1 μ n m → cu_C D m n (cu_row D (La.2 i) Lb.2 (cu_all D (μ 4 0 n = 110) La.2 Lb i) j) → R 89 [ma_Rf 14 0, ma_I n, ma_I a, ma_I b, ma_I 0, ma_I i, ma_I j] [] 0 m := by
        intro k'
        induction k' with
        | zero =>
          intro j m hj hf hc
          have hB := cu_C_f1 hf (by omega) (hLb hk)
          refine s_Cuts_offerAll_89 hR ⟨by omega, fun _ => ⟨by omega, ?_⟩, fun q => by have := hB.1; omega⟩
          rw [show ((i : Nat) : Int) + 1 = ((i + 1 : Nat) : Int) from by omega]
          refine ih (i + 1) _ m (by omega) hf ?_
          rw [cu_all_succ, if_neg hk, show Lb.1 = j from by omega]; exact hc
        | succ k' ih' =>
          intro j m hj hf hc
          have hA := cu_C_f1 hf (by omega) hLa
          have hB := cu_C_f1 hf (by omega) (hLb hk)
          obtain ⟨r1, r2⟩ := hA.2 i (by omega)
          obtain ⟨r3, r4⟩ := hB.2 j (by omega)
          have qa := ga.2 i (by omega)
          have qb := gb.2 j (by omega)
          refine s_Cuts_offerAll_89 hR ⟨by omega, fun q => by have := hB.1; omega, fun q => ⟨by omega, by omega, by omega, ?_⟩⟩
          rw [r1, r2, r3, r4]
          have e1 : ma_lor (La.2 i : Int) (Lb.2 j : Int) = ((La.2 i ||| Lb.2 j : Nat) : Int) := ma_lor_nat _ _ (Nat.lt_of_lt_of_le (cu_p48 (by omega) qa) (by omega)) (Nat.lt_of_lt_of_le (cu_p48 (by omega) qb) (by omega))
          have e2 : (if (cu_top D (La.2 i) 48 : Int) < (cu_top D (Lb.2 j) 48 : Int) then (cu_top D (Lb.2 j) 48 : Int) else (cu_top D (La.2 i) 48 : Int)) = ((cu_top D (La.2 i ||| Lb.2 j) 48 : Nat) : Int) := by
            rw [cu_top_or]; split <;> split <;> omega
          rw [e1, e2]
          refine sp_offer hn hc (cu_row_ok (by omega) (okA i (by omega)) qa j (fun k hk => gb.2 k (by omega))).1 (Nat.or_lt_two_pow qa qb) rfl (fun m' hf' hc' => ?_)
          refine k_Cuts_offerAll_142 hR ⟨by omega, ?_⟩
          rw [show ((j : Nat) : Int) + 1 = ((j + 1 : Nat) : Int) from by omega]
          refine ih' (j + 1) m' (by omega) (cu_f1_trans hf hf') ?_
          rw [cu_row_succ]; exact hc'
      exact inner Lb.1 0 m (by omega) hf hc
  refine s_Cuts_offerAll_0 hR ⟨by omega, fun q => ?_, fun q => ?_⟩
  · rw [ea, eb]; exact two q La.1 0 _ μ (by omega) (cu_f1_refl μ n) base
  · rw [ea, eb]; exact one q La.1 0 _ μ (by omega) (cu_f1_refl μ n) base
theorem cu_top_one {D : Nat → Nat} {n : Nat} : ∀ {k : Nat}, n < k → cu_top D (2 ^ n) k = D n
  | 0, h => absurd h (Nat.not_lt_zero n)
  | k + 1, h => by
    rw [cu_top_succ, Nat.testBit_two_pow]
    by_cases e : n = k
    · subst e
      have : cu_top D (2 ^ n) n = 0 := by
        have := cu_top_le (D := D) (s := 2 ^ n) (B := 0) n (fun i hi hb => by
          rw [Nat.testBit_two_pow] at hb
          have : n = i := by simpa using hb
          omega)
        omega
      rw [this, if_pos (by simp)]; split <;> omega
    · rw [if_neg (c := decide (n = k) = true) (by simpa using e)]; exact cu_top_one (by omega)
/-- the class's cuts, as far as n -/
def cu_CC (kd fi se : Int → Int) (m : ma_M) (n : Nat) : Prop := ∀ k : Nat, k < n → cu_C (fun j => (cu_T kd fi se n j).2) m k (cu_T kd fi se n k).1 ∧ m 20 0 k = ((cu_T kd fi se n k).2 : Int)
theorem cu_C_eqv {D E : Nat → Nat} {μ : ma_M} {n k : Nat} {L : cu_Ls} (hl : ∀ i, i < L.1 → L.2 i < 2 ^ n) (hD : ∀ i, i < n → D i = E i) (h : cu_C D μ k L) : cu_C E μ k L :=
  ⟨h.1, fun i hi => ⟨(h.2 i hi).1, by rw [(h.2 i hi).2, cu_top_eqv (hl i hi) hD]⟩⟩
theorem sp_findAll {LS d : Nat} {Post : ma_R → ma_M → Prop} {μ : ma_M} {N : Nat} (hN : N ≤ 48) (eN : μ 3 0 10 = (N : Int)) (hw : cu_wf (μ 4 0) (μ 5 0) (μ 6 0) N) (h6 : ∀ n : Nat, n < N → ¬ (μ 4 0 n = 105 ∨ μ 4 0 n = 114) → 0 ≤ μ 6 0 n)
    (h : ∀ m : ma_M, (∀ c : Nat, c ≠ 16 → c ≠ 18 → c ≠ 19 → c ≠ 20 → m c = μ c) → cu_CC (μ 4 0) (μ 5 0) (μ 6 0) m N → Post (.inl none) m) :
    ma_Ox LS (d + 5) mi_Cuts_findAll [ma_Rf 14 0] μ Post := by
  refine gi_Cuts_findAll (fun R hR => s_Cuts_findAll_0 hR ?_)
  have lp : ∀ (k n : Nat) (m : ma_M), n + k = N → (∀ c : Nat, c ≠ 16 → c ≠ 18 → c ≠ 19 → c ≠ 20 → m c = μ c) → cu_CC (μ 4 0) (μ 5 0) (μ 6 0) m n → R 2 [ma_Rf 14 0, ma_I n] [] 0 m := by
    intro k
    induction k with
    | zero =>
      intro n m hn hf hc
      have e3 : m 3 0 10 = (N : Int) := by rw [hf 3 (by decide) (by decide) (by decide) (by decide)]; exact eN
      refine s_Cuts_findAll_2 hR ⟨fun _ => h m hf ?_, fun q => by omega⟩
      rw [show N = n from by omega]; exact hc
    | succ k ih =>
      intro n m hn hf hc
      have e3 : m 3 0 10 = (N : Int) := by rw [hf 3 (by decide) (by decide) (by decide) (by decide)]; exact eN
      have e4 : m 4 = μ 4 := hf 4 (by decide) (by decide) (by decide) (by decide)
      have e5 : m 5 = μ 5 := hf 5 (by decide) (by decide) (by decide) (by decide)
      have e6 : m 6 = μ 6 := hf 6 (by decide) (by decide) (by decide) (by decide)
      have gd := cu_T_gd n (by omega) (fun j hj => hw j (by omega))
      have p2 : ∀ k, k < n → (2 : Nat) ^ (k + 1) ≤ 2 ^ n := fun k hk => Nat.pow_le_pow_right (by omega) (by omega)
      have hDs : ∀ i, i < n → (cu_T (μ 4 0) (μ 5 0) (μ 6 0) n i).2 = (cu_T (μ 4 0) (μ 5 0) (μ 6 0) (n + 1) i).2 := fun i hi => by rw [cu_T_succ, if_neg (by omega)]
      have hTn : cu_T (μ 4 0) (μ 5 0) (μ 6 0) (n + 1) n = cu_node (μ 4 0) (μ 5 0) (μ 6 0) (cu_T (μ 4 0) (μ 5 0) (μ 6 0) n) n := by rw [cu_T_succ, if_pos rfl]
      -- from n to n + 1
      have step : ∀ m' : ma_M, (∀ c : Nat, c ≠ 16 → c ≠ 18 → c ≠ 19 → c ≠ 20 → m' c = μ c) → (∀ k : Nat, k < n → cu_C (fun j => (cu_T (μ 4 0) (μ 5 0) (μ 6 0) n j).2) m' k (cu_T (μ 4 0) (μ 5 0) (μ 6 0) n k).1 ∧ m' 20 0 k = ((cu_T (μ 4 0) (μ 5 0) (μ 6 0) n k).2 : Int)) → cu_C (fun j => (cu_T (μ 4 0) (μ 5 0) (μ 6 0) (n + 1) j).2) m' n (cu_T (μ 4 0) (μ 5 0) (μ 6 0) (n + 1) n).1 → m' 20 0 n = ((cu_T (μ 4 0) (μ 5 0) (μ 6 0) (n + 1) n).2 : Int) → R 2 [ma_Rf 14 0, ma_I ((n : Int) + 1)] [] 0 m' := by
        intro m' a1 a2 a3 a4
        rw [show ((n : Nat) : Int) + 1 = ((n + 1 : Nat) : Int) from by omega]
        refine ih (n + 1) m' (by omega) a1 (fun k hk => ?_)
        by_cases e : k = n
        · rw [e]; exact ⟨a3, a4⟩
        · obtain ⟨b1, b2⟩ := a2 k (by omega)
          have eT : cu_T (μ 4 0) (μ 5 0) (μ 6 0) (n + 1) k = cu_T (μ 4 0) (μ 5 0) (μ 6 0) n k := by rw [cu_T_succ, if_neg e]
          rw [eT]
          exact ⟨cu_C_eqv (n := n) (fun i hi => Nat.lt_of_lt_of_le ((gd k (by omega)).lt i hi) (p2 k (by omega))) hDs b1, b2⟩
      -- a node that is no gate
      have nog : (m 4 0 n = 105 ∨ m 4 0 n = 114) → (0 ≤ ((ma_up m 19 0 n 0) 19 0 n) ∧ ((ma_up m 19 0 n 0) 19 0 n) < 7) ∧ (-2147483648 ≤ (((ma_up m 19 0 n 0) 19 0 n) + 1) ∧ (((ma_up m 19 0 n 0) 19 0 n) + 1) < 2147483648) ∧ (-2147483648 ≤ ((n : Int) + 1) ∧ ((n : Int) + 1) < 2147483648) ∧ R 2 [ma_Rf 14 0, ma_I ((n : Int) + 1)] [] 0 (ma_up (ma_up (ma_up (ma_up (ma_up m 19 0 n 0) 20 0 n 0) 16 n ((ma_up m 19 0 n 0) 19 0 n) (ma_lshl 1 n)) 18 n ((ma_up m 19 0 n 0) 19 0 n) ((ma_up (ma_up m 19 0 n 0) 20 0 n 0) 20 0 n)) 19 0 n (((ma_up m 19 0 n 0) 19 0 n) + 1)) := by
        intro hk
        rw [e4] at hk
        have q0 : (ma_up m 19 0 n 0) 19 0 n = 0 := ma_up_eq
        have q1 : (ma_up (ma_up m 19 0 n 0) 20 0 n 0) 20 0 n = 0 := ma_up_eq
        rw [q0, q1]
        refine ⟨by omega, by omega, by omega, step _ ?_ ?_ ?_ ?_⟩
        · intro c a1 a2 a3 a4
          rw [ma_up_ck a3, ma_up_ck a2, ma_up_ck a1, ma_up_ck a4, ma_up_ck a3]; exact hf c a1 a2 a3 a4
        · intro k hk
          obtain ⟨b1, b2⟩ := hc k hk
          refine ⟨⟨?_, fun i hi => ⟨?_, ?_⟩⟩, ?_⟩
          · rw [ma_up_ne (by omega), ma_up_ck (by decide), ma_up_ck (by decide), ma_up_ck (by decide), ma_up_ne (by omega)]; exact b1.1
          · rw [ma_up_ck (by decide), ma_up_ck (by decide), ma_up_ne (by omega), ma_up_ck (by decide), ma_up_ck (by decide)]; exact (b1.2 i hi).1
          · rw [ma_up_ck (by decide), ma_up_ne (by omega), ma_up_ck (by decide), ma_up_ck (by decide), ma_up_ck (by decide)]; exact (b1.2 i hi).2
          · rw [ma_up_ck (by decide), ma_up_ck (by decide), ma_up_ck (by decide), ma_up_ne (by omega), ma_up_ck (by decide)]; exact b2
        · have eD : (cu_T (μ 4 0) (μ 5 0) (μ 6 0) (n + 1) n) = ((1, fun _ => 2 ^ n), 0) := by rw [hTn]; unfold cu_node; rw [if_pos hk]
          have et : cu_top (fun j => (cu_T (μ 4 0) (μ 5 0) (μ 6 0) (n + 1) j).2) (2 ^ n) 48 = 0 := by
            have := cu_top_le (D := fun j => (cu_T (μ 4 0) (μ 5 0) (μ 6 0) (n + 1) j).2) (s := 2 ^ n) (B := 0) 48 (fun i _ hb => by
              rw [Nat.testBit_two_pow] at hb
              have : n = i := by simpa using hb
              show (cu_T (μ 4 0) (μ 5 0) (μ 6 0) (n + 1) i).2 ≤ 0
              rw [← this, eD]; exact Nat.le_refl 0)
            omega
          rw [eD]
          refine ⟨?_, fun i hi => ?_⟩
          · rw [ma_up_eq]; rfl
          · have : i = 0 := by simp only at hi; omega
            subst this
            simp only
            refine ⟨?_, ?_⟩
            · rw [ma_up_ck (by decide), ma_up_ck (by decide), show ((0 : Nat) : Int) = 0 from rfl, ma_up_eq, ma_lshl_one (by omega) (by omega)]; rfl
            · rw [ma_up_ck (by decide), show ((0 : Nat) : Int) = 0 from rfl, ma_up_eq, et]; rfl
        · rw [hTn]; unfold cu_node; rw [if_pos hk]
          rw [ma_up_ck (by decide), ma_up_ck (by decide), ma_up_ck (by decide), ma_up_eq]; rfl
      refine s_Cuts_findAll_2 hR ⟨fun q => by omega, fun q => ⟨by omega, fun q1 => nog (.inl q1), fun q1 => ⟨fun q2 => nog (.inr q2), fun q2 => ?_⟩⟩⟩
      -- a gate
      have hg : ¬ (μ 4 0 n = 105 ∨ μ 4 0 n = 114) := by rw [← e4]; intro z; rcases z with z | z; exact q1 z; exact q2 z
      obtain ⟨⟨w1, w2⟩, w3⟩ := hw n (by omega) hg
      have gdf := gd (μ 5 0 n).toNat (by omega)
      have emm : ∀ c : Nat, c ≠ 19 → c ≠ 20 → (ma_up (ma_up m 19 0 n 0) 20 0 n 0) c = m c := fun c a1 a2 => by rw [ma_up_ck a2, ma_up_ck a1]
      have cC' : ∀ k : Nat, k < n → cu_C (fun j => (cu_T (μ 4 0) (μ 5 0) (μ 6 0) n j).2) (ma_up (ma_up m 19 0 n 0) 20 0 n 0) k (cu_T (μ 4 0) (μ 5 0) (μ 6 0) n k).1 := by
        intro k hk
        obtain ⟨b1, b2⟩ := hc k hk
        refine ⟨?_, fun i hi => ?_⟩
        · rw [ma_up_ck (by decide), ma_up_ne (by omega)]; exact b1.1
        · rw [emm 16 (by decide) (by decide), emm 18 (by decide) (by decide)]; exact b1.2 i hi
      have sm : ∀ k, k < (cu_T (μ 4 0) (μ 5 0) (μ 6 0) n (μ 6 0 n).toNat).1.1 → (cu_T (μ 4 0) (μ 5 0) (μ 6 0) n (μ 6 0 n).toNat).1.2 k < 2 ^ n := by
        intro k hk
        by_cases e : (μ 6 0 n).toNat < n
        · exact Nat.lt_of_lt_of_le ((gd _ e).lt k hk) (p2 _ e)
        · rw [cu_T_out n _ (by omega)] at hk; exact absurd hk (Nat.not_lt_zero k)
      have sm7 : (cu_T (μ 4 0) (μ 5 0) (μ 6 0) n (μ 6 0 n).toNat).1.1 ≤ 7 := by
        by_cases e : (μ 6 0 n).toNat < n
        · exact (gd _ e).le7
        · rw [cu_T_out n _ (by omega)]; exact Nat.zero_le _
      have sf : ∀ k, k < (cu_T (μ 4 0) (μ 5 0) (μ 6 0) n (μ 5 0 n).toNat).1.1 → (cu_T (μ 4 0) (μ 5 0) (μ 6 0) n (μ 5 0 n).toNat).1.2 k < 2 ^ n := fun k hk => Nat.lt_of_lt_of_le (gdf.lt k hk) (p2 _ (by omega))
      have eM4 : (ma_up (ma_up m 19 0 n 0) 20 0 n 0) 4 0 n = μ 4 0 n := by rw [emm 4 (by decide) (by decide), e4]
      have hone := cu_all_one (D := fun k => (cu_T (μ 4 0) (μ 5 0) (μ 6 0) n k).2) (single := μ 4 0 n = 110) (L1 := (cu_T (μ 4 0) (μ 5 0) (μ 6 0) n (μ 5 0 n).toNat).1) (L2 := (cu_T (μ 4 0) (μ 5 0) (μ 6 0) n (μ 6 0 n).toNat).1) (n := n) (by omega) sm sf gdf.pos (fun z => (gd _ (by have := w3 z; omega)).pos) gdf.own (fun z => (gd _ (by have := w3 z; omega)).own)
      have hok := cu_all_ok (D := fun k => (cu_T (μ 4 0) (μ 5 0) (μ 6 0) n k).2) (single := μ 4 0 n = 110) (f1 := (cu_T (μ 4 0) (μ 5 0) (μ 6 0) n (μ 5 0 n).toNat).1.2) (n := n) (by omega) sm (cu_T (μ 4 0) (μ 5 0) (μ 6 0) n (μ 5 0 n).toNat).1.1 sf
      refine sp_offerAll (D := fun k => (cu_T (μ 4 0) (μ 5 0) (μ 6 0) n k).2) (a := (μ 5 0 n).toNat) (b := (μ 6 0 n).toNat) (La := (cu_T (μ 4 0) (μ 5 0) (μ 6 0) n (μ 5 0 n).toNat).1) (Lb := (cu_T (μ 4 0) (μ 5 0) (μ 6 0) n (μ 6 0 n).toNat).1) (f0 := fun _ => 0) (by omega) (by omega) ?_ ?_ (fun z => ?_) (cC' _ (by omega)) (fun z => cC' _ ?_) ⟨gdf.le7, sf⟩ ⟨sm7, sm⟩ ⟨?_, fun i hi => absurd hi (Nat.not_lt_zero i)⟩ (fun m' hf' hc' => ?_)
      · rw [emm 5 (by decide) (by decide), e5]; omega
      · rw [emm 6 (by decide) (by decide), e6]
        by_cases z : μ 4 0 n = 110
        · have := h6 n (by omega) hg; omega
        · have := w3 z; omega
      · rw [eM4] at z; have := w3 z; omega
      · rw [eM4] at z; have := w3 z; omega
      · rw [ma_up_ck (by decide), ma_up_eq]; rfl
      rw [eM4] at hc'
      generalize hL : cu_all (fun k => (cu_T (μ 4 0) (μ 5 0) (μ 6 0) n k).2) (μ 4 0 n = 110) (cu_T (μ 4 0) (μ 5 0) (μ 6 0) n (μ 5 0 n).toNat).1.2 (cu_T (μ 4 0) (μ 5 0) (μ 6 0) n (μ 6 0 n).toNat).1 (cu_T (μ 4 0) (μ 5 0) (μ 6 0) n (μ 5 0 n).toNat).1.1 = L at hone hok hc'
      have hND : cu_T (μ 4 0) (μ 5 0) (μ 6 0) (n + 1) n = ((L.1 + 1, fun i => if i < L.1 then L.2 i else 2 ^ n), cu_top (fun k => (cu_T (μ 4 0) (μ 5 0) (μ 6 0) n k).2) (L.2 0) 48 + 1) := by
        rw [hTn]; unfold cu_node; rw [if_neg hg, hL]
      have hc0 := hc'.2 0 (by omega)
      have l6 := hok.1
      have htop : cu_top (fun k => (cu_T (μ 4 0) (μ 5 0) (μ 6 0) n k).2) (L.2 0) 48 ≤ n := cu_top48 (hok.2.1 0 (by omega)).1 (fun i hi => by have := (gd i hi).dep; show (cu_T (μ 4 0) (μ 5 0) (μ 6 0) n i).2 ≤ n; omega)
      have e0 : m' 18 n 0 = (cu_top (fun k => (cu_T (μ 4 0) (μ 5 0) (μ 6 0) n k).2) (L.2 0) 48 : Int) := hc0.2
      have e1 : m' 19 0 n = (L.1 : Int) := hc'.1
      have q2 : (ma_up m' 20 0 n (1 + m' 18 n 0)) 20 0 n = 1 + m' 18 n 0 := ma_up_eq
      refine k_Cuts_findAll_40 hR ⟨by omega, by rw [e0]; omega, by rw [e1]; omega, by rw [e1]; omega, by omega, ?_⟩
      rw [q2, e0, e1]
      have hm' : ∀ c : Nat, c ≠ 16 → c ≠ 18 → c ≠ 19 → c ≠ 20 → m' c = μ c := fun c a1 a2 a3 a4 => by rw [hf'.1 c a1 a2 a3, emm c a3 a4]; exact hf c a1 a2 a3 a4
      refine step _ ?_ ?_ ?_ ?_
      · intro c a1 a2 a3 a4
        rw [ma_up_ck a3, ma_up_ck a2, ma_up_ck a1, ma_up_ck a4]; exact hm' c a1 a2 a3 a4
      · intro k hk
        have b1 := cu_C_f1 hf' (by omega) (cC' k hk)
        obtain ⟨_, b2⟩ := hc k hk
        refine ⟨⟨?_, fun i hi => ⟨?_, ?_⟩⟩, ?_⟩
        · rw [ma_up_ne (by omega), ma_up_ck (by decide), ma_up_ck (by decide), ma_up_ck (by decide)]; exact b1.1
        · rw [ma_up_ck (by decide), ma_up_ck (by decide), ma_up_ne (by omega), ma_up_ck (by decide)]; exact (b1.2 i hi).1
        · rw [ma_up_ck (by decide), ma_up_ne (by omega), ma_up_ck (by decide), ma_up_ck (by decide)]; exact (b1.2 i hi).2
        · rw [ma_up_ck (by decide), ma_up_ck (by decide), ma_up_ck (by decide), ma_up_ne (by omega), hf'.1 20 (by decide) (by decide) (by decide), ma_up_ne (by omega), ma_up_ck (by decide)]; exact b2
      · rw [hND]
        have hDn : (cu_T (μ 4 0) (μ 5 0) (μ 6 0) (n + 1) n).2 = cu_top (fun k => (cu_T (μ 4 0) (μ 5 0) (μ 6 0) n k).2) (L.2 0) 48 + 1 := by rw [hND]
        have et : cu_top (fun j => (cu_T (μ 4 0) (μ 5 0) (μ 6 0) (n + 1) j).2) (2 ^ n) 48 = cu_top (fun k => (cu_T (μ 4 0) (μ 5 0) (μ 6 0) n k).2) (L.2 0) 48 + 1 := by
          rw [← hDn]; exact cu_top_one (by omega)
        refine ⟨?_, fun i hi => ?_⟩
        · rw [ma_up_eq]; simp only; omega
        · simp only at hi ⊢
          by_cases a : i < L.1
          · rw [if_pos a]
            obtain ⟨b1, b2⟩ := hc'.2 i a
            refine ⟨?_, ?_⟩
            · rw [ma_up_ck (by decide), ma_up_ck (by decide), ma_up_ne (by omega), ma_up_ck (by decide)]; exact b1
            · rw [ma_up_ck (by decide), ma_up_ne (by omega), ma_up_ck (by decide), ma_up_ck (by decide), b2, cu_top_eqv (hok.2.1 i a).1 hDs]
          · have e : i = L.1 := by omega
            rw [if_neg a, e]
            refine ⟨?_, ?_⟩
            · rw [ma_up_ck (by decide), ma_up_ck (by decide), ma_up_eq, ma_lshl_one (by omega) (by omega)]; rfl
            · rw [ma_up_ck (by decide), ma_up_eq, et]; omega
      · rw [hND, ma_up_ck (by decide), ma_up_ck (by decide), ma_up_ck (by decide), ma_up_eq]; simp only; omega
  exact lp N 0 μ (by omega) (fun _ _ _ _ _ => rfl) (fun k hk => absurd hk (Nat.not_lt_zero k))

