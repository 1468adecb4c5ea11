/-! the reference finds the cuts of a node -/
/-- the reference's cuts, as far as n -/
def cu_MM (kd fi se : Int → Int) (m : ma_M) (n : Nat) : Prop := ∀ k : Nat, k < n → cu_M m k (cu_T kd fi se n k).1 ∧ m 80 0 k = ((cu_T kd fi se n k).2 : Int)
theorem sp_findsCuts {LS d : Nat} {Post : ma_R → ma_M → Prop} {μ : ma_M} {N n : Nat} {kd fi se : Int → Int} (hN : N ≤ 48) (eN : μ 69 0 8 = (N : Int)) (hn : n < N) (hw : cu_wf kd fi se N) (h6 : ¬ (kd n = 105 ∨ kd n = 114) → 0 ≤ se n) (e70 : μ 70 0 = kd) (e71 : μ 71 0 = fi) (e72 : μ 72 0 = se)
    (hc : cu_MM kd fi se μ n)
    (h : ∀ m : ma_M, (∀ c : Nat, c ≠ 78 → c ≠ 79 → c ≠ 80 → m c = μ c) → cu_MM kd fi se m (n + 1) → Post (.inl none) m) :
    ma_Ox LS (d + 4) mi_LatticefitModel_findsCuts [ma_Rf 69 0, ma_I n] μ Post := by
  have gd := cu_T_gd n (by omega) (fun j hj => hw j (by omega))
  have p2 : ∀ k, k < n → (2 : Nat) ^ (k + 1) ≤ 2 ^ n := fun k hk => Nat.pow_le_pow_right (by omega) (by omega)
  have hTn : cu_T kd fi se (n + 1) n = cu_node kd fi se (cu_T kd fi se n) n := by rw [cu_T_succ, if_pos rfl]
  have step : ∀ m : ma_M, (∀ k : Nat, k < n → cu_M m k (cu_T kd fi se n k).1 ∧ m 80 0 k = ((cu_T kd fi se n k).2 : Int)) → cu_M m n (cu_T kd fi se (n + 1) n).1 → m 80 0 n = ((cu_T kd fi se (n + 1) n).2 : Int) → cu_MM kd fi se m (n + 1) := by
    intro m a1 a2 a3 k hk
    by_cases e : k = n
    · rw [e]; exact ⟨a2, a3⟩
    · have eT : cu_T kd fi se (n + 1) k = cu_T kd fi se n k := by rw [cu_T_succ, if_neg e]
      rw [eT]; exact a1 k (by omega)
  have l7 : ∀ k, k < n → (cu_T kd fi se n k).1.1 ≤ 7 := fun k hk => (gd k hk).le7
  have q0 : (ma_up μ 79 0 n 0) 79 0 n = 0 := ma_up_eq
  have nog : (kd n = 105 ∨ kd n = 114) → (-2147483648 ≤ ((n : Int) * 7) ∧ ((n : Int) * 7) < 2147483648) ∧ (-2147483648 ≤ (((n : Int) * 7) + ((ma_up μ 79 0 n 0) 79 0 n)) ∧ (((n : Int) * 7) + ((ma_up μ 79 0 n 0) 79 0 n)) < 2147483648) ∧ (0 ≤ (((n : Int) * 7) + ((ma_up μ 79 0 n 0) 79 0 n)) ∧ (((n : Int) * 7) + ((ma_up μ 79 0 n 0) 79 0 n)) < 336) ∧ (-2147483648 ≤ (((ma_up μ 79 0 n 0) 79 0 n) + 1) ∧ (((ma_up μ 79 0 n 0) 79 0 n) + 1) < 2147483648) ∧ Post (.inl none) (ma_up (ma_up (ma_up (ma_up μ 79 0 n 0) 80 0 n 0) 78 0 (((n : Int) * 7) + ((ma_up μ 79 0 n 0) 79 0 n)) (ma_lshl 1 n)) 79 0 n (((ma_up μ 79 0 n 0) 79 0 n) + 1)) := by
    intro hk
    have eD : cu_T kd fi se (n + 1) n = ((1, fun _ => 2 ^ n), 0) := by rw [hTn]; unfold cu_node; rw [if_pos hk]
    rw [q0]
    refine ⟨by omega, by omega, by omega, by omega, h _ ?_ (step _ (fun k hk => ?_) ?_ ?_)⟩
    · intro c a1 a2 a3
      rw [ma_up_ck a2, ma_up_ck a1, ma_up_ck a3, ma_up_ck a2]
    · obtain ⟨b1, b2⟩ := hc k hk
      have := l7 k hk
      refine ⟨⟨?_, fun i hi => ?_⟩, ?_⟩
      · rw [ma_up_ne (by omega), ma_up_ck (by decide), ma_up_ck (by decide), ma_up_ne (by omega)]; exact b1.1
      · rw [ma_up_ck (by decide), ma_up_ne (by omega), ma_up_ck (by decide), ma_up_ck (by decide)]; exact b1.2 i hi
      · rw [ma_up_ck (by decide), ma_up_ck (by decide), ma_up_ne (by omega), ma_up_ck (by decide)]; exact b2
    · rw [eD]
      refine ⟨?_, fun i hi => ?_⟩
      · rw [ma_up_eq]; rfl
      · have : i = 0 := by simp only at hi; omega
        subst this
        simp only
        rw [ma_up_ck (by decide), show ((n * 7 + 0 : Nat) : Int) = (n : Int) * 7 + 0 from by omega, ma_up_eq, ma_lshl_one (by omega) (by omega)]; rfl
    · rw [eD, ma_up_ck (by decide), ma_up_ck (by decide), ma_up_eq]; rfl
  refine gi_LatticefitModel_findsCuts (fun R hR => ?_)
  refine s_LatticefitModel_findsCuts_0 hR ⟨by omega, fun q1 => nog (.inl (by rw [← e70]; exact q1)), fun q1 => ⟨fun q2 => nog (.inr (by rw [← e70]; exact q2)), fun q2 => ?_⟩⟩
  have hg : ¬ (kd n = 105 ∨ kd n = 114) := by rw [← e70]; intro z; rcases z with z | z; exact q1 z; exact q2 z
  clear nog q1 q2
  obtain ⟨⟨w1, w2⟩, w3⟩ := hw n (by omega) hg
  have w6 := h6 hg
  obtain ⟨a, ea⟩ : ∃ a : Nat, fi n = (a : Int) := ⟨(fi n).toNat, by omega⟩
  obtain ⟨b, eb⟩ : ∃ b : Nat, se n = (b : Int) := ⟨(se n).toNat, by omega⟩
  have gdf := gd a (by omega)
  have emm : ∀ c : Nat, c ≠ 79 → c ≠ 80 → (ma_up (ma_up μ 79 0 n 0) 80 0 n 0) c = μ c := fun c a1 a2 => by rw [ma_up_ck a2, ma_up_ck a1]
  have cM' : ∀ k : Nat, k < n → cu_M (ma_up (ma_up μ 79 0 n 0) 80 0 n 0) k (cu_T kd fi se n k).1 := by
    intro k hk
    obtain ⟨b1, b2⟩ := hc k hk
    refine ⟨?_, fun i hi => ?_⟩
    · rw [ma_up_ck (by decide), ma_up_ne (by omega)]; exact b1.1
    · rw [emm 78 (by decide) (by decide)]; exact b1.2 i hi
  have c80 : ∀ k : Nat, k < n → (ma_up (ma_up μ 79 0 n 0) 80 0 n 0) 80 0 k = ((cu_T kd fi se n k).2 : Int) := by
    intro k hk
    rw [ma_up_ne (by omega), ma_up_ck (by decide)]; exact (hc k hk).2
  have cnn : (ma_up (ma_up μ 79 0 n 0) 80 0 n 0) 79 0 n = 0 := by rw [ma_up_ck (by decide), ma_up_eq]
  have sm : ∀ k, k < (cu_T kd fi se n b).1.1 → (cu_T kd fi se n b).1.2 k < 2 ^ n := by
    intro k hk
    by_cases e : b < n
    · exact Nat.lt_of_lt_of_le ((gd _ e).lt k hk) (p2 _ e)
    · rw [cu_T_out n _ (by omega)] at hk; exact absurd hk (Nat.not_lt_zero k)
  have sm7 : (cu_T kd fi se n b).1.1 ≤ 7 := by
    by_cases e : b < n
    · exact (gd _ e).le7
    · rw [cu_T_out n _ (by omega)]; exact Nat.zero_le _
  have sf : ∀ k, k < (cu_T kd fi se n a).1.1 → (cu_T kd fi se n a).1.2 k < 2 ^ n := fun k hk => Nat.lt_of_lt_of_le (gdf.lt k hk) (p2 _ (by omega))
  have hone := cu_all_one (D := fun k => (cu_T kd fi se n k).2) (single := kd n = 110) (L1 := (cu_T kd fi se n a).1) (L2 := (cu_T kd fi se n b).1) (n := n) (by omega) sm sf gdf.pos (fun z => (gd _ (by have := w3 z; omega)).pos) gdf.own (fun z => (gd _ (by have := w3 z; omega)).own)
  have okA : ∀ i, i ≤ (cu_T kd fi se n a).1.1 → cu_ok (fun k => (cu_T kd fi se n k).2) n (cu_all (fun k => (cu_T kd fi se n k).2) (kd n = 110) (cu_T kd fi se n a).1.2 (cu_T kd fi se n b).1 i) := fun i hi => cu_all_ok (by omega) sm i (fun k hk => sf k (by omega))
  have gf7 := gdf.le7
  have dn : ∀ k : Nat, k < n → (cu_T kd fi se n k).2 ≤ 47 := fun k hk => by have := (gd k hk).dep; omega
  have hgs : ∀ z : kd n ≠ 110, b < n := fun z => by have := w3 z; omega
  have hND : cu_T kd fi se (n + 1) n = (((cu_all (fun k => (cu_T kd fi se n k).2) (kd n = 110) (cu_T kd fi se n a).1.2 (cu_T kd fi se n b).1 (cu_T kd fi se n a).1.1).1 + 1, fun i => if i < (cu_all (fun k => (cu_T kd fi se n k).2) (kd n = 110) (cu_T kd fi se n a).1.2 (cu_T kd fi se n b).1 (cu_T kd fi se n a).1.1).1 then (cu_all (fun k => (cu_T kd fi se n k).2) (kd n = 110) (cu_T kd fi se n a).1.2 (cu_T kd fi se n b).1 (cu_T kd fi se n a).1.1).2 i else 2 ^ n), cu_top (fun k => (cu_T kd fi se n k).2) ((cu_all (fun k => (cu_T kd fi se n k).2) (kd n = 110) (cu_T kd fi se n a).1.2 (cu_T kd fi se n b).1 (cu_T kd fi se n a).1.1).2 0) 48 + 1) := by
    rw [hTn]; unfold cu_node; rw [if_neg hg, ea, eb]; rfl
  have hLa := cM' a (by omega)
  have hLb : kd n ≠ 110 → cu_M (ma_up (ma_up μ 79 0 n 0) 80 0 n 0) b (cu_T kd fi se n b).1 := fun z => cM' b (hgs z)
  have E : ∀ m, cu_f2 (ma_up (ma_up μ 79 0 n 0) 80 0 n 0) n m → m 69 0 8 = (N : Int) ∧ m 70 0 n = kd n ∧ m 71 0 n = (a : Int) ∧ m 72 0 n = (b : Int) ∧ ∀ k : Nat, k < n → m 80 0 k = ((cu_T kd fi se n k).2 : Int) ∧ (cu_T kd fi se n k).2 ≤ 47 := by
    intro m hm
    rw [hm.1 69 (by decide) (by decide), hm.1 70 (by decide) (by decide), hm.1 71 (by decide) (by decide), hm.1 72 (by decide) (by decide), hm.1 80 (by decide) (by decide), emm 69 (by decide) (by decide), emm 70 (by decide) (by decide), emm 71 (by decide) (by decide), emm 72 (by decide) (by decide), e70, e71, e72]
    exact ⟨eN, rfl, ea, eb, fun k hk => ⟨c80 k hk, dn k hk⟩⟩
  have hmC : ∀ m, cu_f2 (ma_up (ma_up μ 79 0 n 0) 80 0 n 0) n m → ∀ k : Nat, k < n → cu_M m k (cu_T kd fi se n k).1 := fun m hm k hk => cu_M_f2 hm (by omega) (l7 k hk) (cM' k hk)
  have frm : ∀ m, cu_f2 (ma_up (ma_up μ 79 0 n 0) 80 0 n 0) n m → ∀ c : Nat, c ≠ 78 → c ≠ 79 → c ≠ 80 → m c = μ c := fun m hm c a1 a2 a3 => by rw [hm.1 c a1 a2, emm c a2 a3]
  have hD0 : (ma_up (ma_up μ 79 0 n 0) 80 0 n 0) 79 0 n = 0 := cnn
  generalize hμ0 : ma_up (ma_up μ 79 0 n 0) 80 0 n 0 = μ0 at *
  generalize hT : cu_T kd fi se n = T at *
  -- the loops
  have outer : ∀ (k i : Nat) (u3 : ma_V) (m : ma_M), i + k = (T a).1.1 → cu_f2 μ0 n m → cu_M m n (cu_all (fun k => (T k).2) (kd n = 110) (T a).1.2 (T b).1 i) → R 24 [ma_Rf 69 0, ma_I n, ma_I i, u3] [] 0 m := by
    intro k
    induction k with
    | zero =>
      intro i u3 m hi hf hcm
      obtain ⟨m1, m2, m3, m4, m5⟩ := E m hf
      have hA := hmC m hf a (by omega)
      have ei : (T a).1.1 = i := by omega
      rw [← ei] at hcm
      have ok := okA (T a).1.1 (by omega)
      generalize cu_all (fun k => (T k).2) (kd n = 110) (T a).1.2 (T b).1 (T a).1.1 = L at *
      have r0 := hcm.2 0 (by omega)
      have l6 := ok.1
      have t47 : cu_top (fun k => (T k).2) (L.2 0) 48 ≤ 47 := cu_top48 (ok.2.1 0 (by omega)).1 (fun i hi => dn i hi)
      refine s_LatticefitModel_findsCuts_24 hR ⟨by omega, by rw [m3]; omega, fun _ => ⟨by omega, by omega, ?_⟩, fun q => by rw [m3] at q; have := hA.1; omega⟩
      rw [show (n : Int) * 7 = ((n * 7 + 0 : Nat) : Int) from by omega, r0]
      refine sp_depthOf hN m1 (Nat.le_of_lt hn) (ok.2.1 0 (by omega)).1 m5 (k_LatticefitModel_findsCuts_151 hR ⟨by omega, by omega, by omega, ?_⟩)
      rw [hcm.1, show (n : Int) * 7 + (L.1 : Int) = ((n * 7 + L.1 : Nat) : Int) from by omega]
      refine ⟨by omega, by omega, by omega, h _ ?_ (step _ (fun k hk => ?_) ?_ ?_)⟩
      · intro c a1 a2 a3
        rw [ma_up_ck a2, ma_up_ck a1, ma_up_ck a3]; exact frm m hf c a1 a2 a3
      · have b1 := hmC m hf k hk
        have := l7 k hk
        refine ⟨⟨?_, fun i hi => ?_⟩, ?_⟩
        · rw [ma_up_ne (by omega), ma_up_ck (by decide), ma_up_ck (by decide)]; exact b1.1
        · rw [ma_up_ck (by decide), ma_up_ne (by omega), ma_up_ck (by decide)]; exact b1.2 i hi
        · rw [ma_up_ck (by decide), ma_up_ck (by decide), ma_up_ne (by omega)]; exact (m5 k hk).1
      · rw [hND]
        refine ⟨?_, fun i hi => ?_⟩
        · rw [ma_up_eq]; simp only; omega
        · simp only at hi ⊢
          by_cases q : i < L.1
          · rw [if_pos q, ma_up_ck (by decide), ma_up_ne (by omega), ma_up_ck (by decide)]; exact hcm.2 i q
          · rw [if_neg q, show i = L.1 from by omega, ma_up_ck (by decide), ma_up_eq, ma_lshl_one (by omega) (by omega)]; rfl
      · rw [hND, ma_up_ck (by decide), ma_up_ck (by decide), ma_up_eq]
    | succ k ih =>
      intro i u3 m hi hf hcm
      obtain ⟨m1, m2, m3, m4, m5⟩ := E m hf
      have hA := hmC m hf a (by omega)
      refine s_LatticefitModel_findsCuts_24 hR ⟨by omega, by rw [m3]; omega, fun q => by rw [m3] at q; have := hA.1; omega, fun _ => ?_⟩
      by_cases hk : kd n = 110
      · refine s_LatticefitModel_findsCuts_41 hR ⟨by omega, fun q => absurd (by rw [m2]; exact hk) q, fun _ => ⟨fun q => by omega, fun _ => ?_⟩⟩
        rw [m3, show (a : Int) * 7 + (i : Int) = ((a * 7 + i : Nat) : Int) from by omega, hA.2 i (by omega)]
        have qa := sf i (by omega)
        have e1 : ma_lor ((T a).1.2 i : Int) 0 = ((T a).1.2 i : Int) := by
          have := ma_lor_nat ((T a).1.2 i) 0 (Nat.lt_of_lt_of_le (cu_p48 (by omega) qa) (by omega)) (by omega)
          rw [Nat.or_zero] at this; exact this
        rw [e1]
        refine ⟨by omega, by omega, by omega, sp_offers hN m1 hn hcm (okA i (by omega)) qa m5 (fun m' hf' hc' => ?_)⟩
        have hf2 := cu_f2_trans hf hf'
        obtain ⟨m1', m2', m3', m4', m5'⟩ := E m' hf2
        refine k_LatticefitModel_findsCuts_121 hR ⟨by omega, s_LatticefitModel_findsCuts_41 hR ⟨by omega, fun q => absurd (by rw [m2']; exact hk) q, fun _ => ⟨fun q => ⟨by omega, ?_⟩, fun q => by omega⟩⟩⟩
        rw [show ((i : Nat) : Int) + 1 = ((i + 1 : Nat) : Int) from by omega]
        refine ih (i + 1) _ m' (by omega) hf2 ?_
        rw [cu_all_succ, if_pos hk]; exact hc'
      · have inner : ∀ (k' j : Nat) (m : ma_M), j + k' = (T b).1.1 → cu_f2 μ0 n m → cu_M m n (cu_row (fun k => (T k).2) ((T a).1.2 i) (T b).1.2 (cu_all (fun k => (T k).2) (kd n = 110) (T a).1.2 (T b).1 i) j) → R 41 [ma_Rf 69 0, ma_I n, ma_I i, ma_I j] [] 0 m := by
          intro k'
          induction k' with
          | zero =>
            intro j m hj hf hcm
            obtain ⟨m1, m2, m3, m4, m5⟩ := E m hf
            have hB := hmC m hf b (hgs hk)
            refine s_LatticefitModel_findsCuts_41 hR ⟨by omega, fun _ => ⟨by rw [m4]; have := hgs hk; omega, fun _ => ⟨by omega, ?_⟩, fun q => by rw [m4] at q; have := hB.1; omega⟩, fun q => absurd (by rw [← m2]; exact q) hk⟩
            rw [show ((i : Nat) : Int) + 1 = ((i + 1 : Nat) : Int) from by omega]
            refine ih (i + 1) _ m (by omega) hf ?_
            rw [cu_all_succ, if_neg hk, show (T b).1.1 = j from by omega]; exact hcm
          | succ k' ih' =>
            intro j m hj hf hcm
            obtain ⟨m1, m2, m3, m4, m5⟩ := E m hf
            have hA := hmC m hf a (by omega)
            have hB := hmC m hf b (hgs hk)
            have bn := hgs hk
            have qa := sf i (by omega)
            have qb := sm j (by omega)
            have e1 : ma_lor ((T a).1.2 i : Int) ((T b).1.2 j : Int) = (((T a).1.2 i ||| (T b).1.2 j : Nat) : Int) := ma_lor_nat _ _ (Nat.lt_of_lt_of_le (cu_p48 (by omega) qa) (by omega)) (Nat.lt_of_lt_of_le (cu_p48 (by omega) qb) (by omega))
            refine s_LatticefitModel_findsCuts_41 hR ⟨by omega, fun _ => ⟨by rw [m4]; omega, fun q => by rw [m4] at q; have := hB.1; omega, fun _ => ?_⟩, fun q => absurd (by rw [← m2]; exact q) hk⟩
            rw [m3, m4, show (a : Int) * 7 + (i : Int) = ((a * 7 + i : Nat) : Int) from by omega, hA.2 i (by omega), show (b : Int) * 7 + (j : Int) = ((b * 7 + j : Nat) : Int) from by omega, hB.2 j (by omega), e1]
            refine ⟨by omega, by omega, by omega, by omega, by omega, by omega, sp_offers hN m1 hn hcm (cu_row_ok (by omega) (okA i (by omega)) qa j (fun k hk => sm k (by omega))).1 (Nat.or_lt_two_pow qa qb) m5 (fun m' hf' hc' => ?_)⟩
            refine k_LatticefitModel_findsCuts_121 hR ⟨by omega, ?_⟩
            rw [show ((j : Nat) : Int) + 1 = ((j + 1 : Nat) : Int) from by omega]
            refine ih' (j + 1) m' (by omega) (cu_f2_trans hf hf') ?_
            rw [cu_row_succ]; exact hc'
        exact inner (T b).1.1 0 m (by omega) hf hcm
  exact outer (T a).1.1 0 _ μ0 (by omega) (cu_f2_refl μ0 n) ⟨hD0, fun i hi => absurd hi (Nat.not_lt_zero i)⟩
