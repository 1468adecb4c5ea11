/-! worstStretch -/
theorem ma_sum_pos {f : Int → Int} : ∀ n : Nat, (∀ i : Int, 0 ≤ i → i < n → 0 ≤ f i) → ∀ j : Int, 0 ≤ j → j < n → 1 ≤ f j → 1 ≤ ma_sum f n := by
  intro n
  induction n with
  | zero => intro _ j a b; omega
  | succ n ih =>
    intro h j j0 j1 hj
    have un : ma_sum f (n + 1) = ma_sum f n + f n := rfl
    have hn := h n (by omega) (by omega)
    rw [un]
    by_cases e : j = n
    · have : 0 ≤ ma_sum f n := by
        clear ih hj un hn j0 j1 e
        have hh : ∀ k : Nat, k ≤ n → 0 ≤ ma_sum f k := by
          intro k
          induction k with
          | zero => intro _; exact Int.le_refl 0
          | succ k ik =>
            intro hk
            have a := ik (by omega)
            have b := h k (by omega) (by omega)
            show 0 ≤ ma_sum f k + f k
            omega
        exact hh n (Nat.le_refl n)
      rw [e] at hj; omega
    · have := ih (fun i i0 i1 => h i i0 (by omega)) j j0 (by omega) hj
      omega
theorem fi_rng {μ : ma_M} {n : Int} : 0 ≤ fi_e μ n ∧ fi_e μ n ≤ 49 := by
  have := ma_sum_rng (f := fun x => if 0 ≤ μ 42 n x then 1 else 0) (b := 1) 49 (fun j _ _ => by
    show 0 ≤ (if 0 ≤ μ 42 n j then 1 else 0) ∧ _ ≤ _
    split <;> omega)
  unfold fi_e; omega
/-- a net without pins has no length; one with a length has an edge -/
theorem ws_nopin {μ : ma_M} {n L : Int} (h : cu_len μ n L) (hp : ∀ x, rl_pin μ n x → x = cu_src μ n) : L = 0 := by
  obtain ⟨a, b, c, d, h1, h2, e⟩ := h
  have S : ∀ x, cu_S μ n x ↔ x = cu_src μ n := fun x => ⟨fun z => by rcases z with z | z; exact z; exact hp x z, fun z => .inl z⟩
  have u1 := cu_mm_uniq h1 (cu_mm_one (f := cu_col) S) (fun _ => Iff.rfl)
  have u2 := cu_mm_uniq h2 (cu_mm_one (f := cu_rw) S) (fun _ => Iff.rfl)
  omega
theorem ws_edge {μ : ma_M} (H : tm_H μ) {n L : Int} (n0 : 0 ≤ n) (n1 : n < μ 3 0 10) (h : cu_len μ n L) (h0 : 0 < L) : (∃ x, rl_pin μ n x) ∧ 1 ≤ fi_e μ n := by
  have T := H.2.2.2 n n0 n1
  have ex : ∃ x, rl_pin μ n x ∧ x ≠ cu_src μ n := by
    by_cases q : ∃ x, rl_pin μ n x ∧ x ≠ cu_src μ n
    · exact q
    · have := ws_nopin h (fun x hx => by by_cases z : x = cu_src μ n; exact z; exact absurd ⟨x, hx, z⟩ q)
      omega
  obtain ⟨x, hx, ne⟩ := ex
  refine ⟨⟨x, hx⟩, ?_⟩
  have es : cu_src μ n = rl_src μ n := by
    unfold cu_src rl_src
    rcases cu_pin_node H.2.1 hx with z | z
    · rw [if_pos z, if_pos z]
    · rw [if_pos z]
  have xr := cu_pin_rng H.1 (cu_q_of H.2.2.1) hx
  have bx : 0 ≤ μ 42 n x := by
    rcases T.2.2.2.2.2.1 x hx with z | z
    · exact absurd (z.trans es.symm) ne
    · exact z
  refine ma_sum_pos 49 (fun i _ _ => ?_) x xr.1 (by omega) ?_
  · show 0 ≤ (if 0 ≤ μ 42 n i then 1 else 0)
    split <;> omega
  · show 1 ≤ (if 0 ≤ μ 42 n x then 1 else 0)
    rw [if_pos bx]; omega
theorem ws_last {e L : Int → Int} (n : Nat) : (L n ≤ 0 → ws_f e L (n + 1) = ws_f e L n) ∧ (0 < L n → ws_f e L (n + 1) = if 0 < (Op.cmpValue (FP.dcmp (ws_q (e n) (L n)) (ws_f e L n)) .l).toInt then ws_q (e n) (L n) else ws_f e L n) := by
  have un : ws_f e L (n + 1) = if L n ≤ 0 then ws_f e L n else if 0 < (Op.cmpValue (FP.dcmp (ws_q (e n) (L n)) (ws_f e L n)) .l).toInt then ws_q (e n) (L n) else ws_f e L n := rfl
  rw [un]
  exact ⟨fun h => by rw [if_pos h], fun h => by rw [if_neg (by omega)]⟩
theorem ws_len_cg {μ μ' : ma_M} {n L : Int} (g : ∀ c ∈ ([3, 4, 10, 13, 21, 25, 27, 28, 32] : List Nat), μ' c = μ c) (H : cu_len μ n L) : cu_len μ' n L := by
  have e3 := g 3 (by decide)
  have e4 := g 4 (by decide)
  have e10 := g 10 (by decide)
  have e13 := g 13 (by decide)
  have e21 := g 21 (by decide)
  have e25 := g 25 (by decide)
  have e27 := g 27 (by decide)
  have e28 := g 28 (by decide)
  have e32 := g 32 (by decide)
  unfold cu_len cu_S cu_src rl_pin at H ⊢
  simp only [e3, e4, e10, e13, e21, e25, e27, e28, e32]
  exact H
theorem ws_pin_cg {μ μ' : ma_M} {n x : Int} (g : ∀ c ∈ ([3, 13, 21, 25, 27, 32] : List Nat), μ' c = μ c) (H : rl_pin μ n x) : rl_pin μ' n x := by
  have e3 := g 3 (by decide)
  have e13 := g 13 (by decide)
  have e21 := g 21 (by decide)
  have e25 := g 25 (by decide)
  have e27 := g 27 (by decide)
  have e32 := g 32 (by decide)
  unfold rl_pin at H ⊢
  simp only [e3, e13, e21, e25, e27, e32]
  exact H
/-- the reference counts the edges of a net -/
theorem sp_edgesR {LS d : Nat} {Post : ma_R → ma_M → Prop} {μ m : ma_M} {n : Int} (hm : m 91 = μ 91) (H : rl_t μ n) (n0 : 0 ≤ n) (n1 : n < 48) (h92 : ¬ μ 92 0 n = 0) (h : Post (.inl (some (ma_I (fi_e μ n)))) m) : ma_Ox LS (d + 1) mi_LatticefitModel_edgesOf [ma_Rf 69 0, ma_I n] m Post := by
  rw [fi_net H] at h
  refine gi_LatticefitModel_edgesOf (fun R hR => s_LatticefitModel_edgesOf_0 (d := d) hR ?_)
  have lp : ∀ (k e : Nat), e + k = 84 → R 4 [ma_Rf 69 0, ma_I n, ma_I (ma_sum (fun e => if μ 42 n (rl_lo e) = e ∨ μ 42 n (rl_hi e) = e then 1 else 0) e), ma_I e] [] 0 m := by
    intro k
    induction k with
    | zero =>
      intro e he
      refine s_LatticefitModel_edgesOf_4 hR ⟨fun _ => ?_, fun q => by omega⟩
      rw [show e = 84 from by omega]; exact h
    | succ k ih =>
      intro e he
      have r := ma_sum_rng (f := fun e => if μ 42 n (rl_lo e) = e ∨ μ 42 n (rl_hi e) = e then 1 else 0) (b := 1) e (fun j _ _ => by
        show 0 ≤ (if μ 42 n (rl_lo j) = j ∨ μ 42 n (rl_hi j) = j then 1 else 0) ∧ _ ≤ _
        split <;> omega)
      have nx := ih (e + 1) (by omega)
      have un : ma_sum (fun e => if μ 42 n (rl_lo e) = e ∨ μ 42 n (rl_hi e) = e then 1 else 0) (e + 1) = ma_sum (fun e => if μ 42 n (rl_lo e) = e ∨ μ 42 n (rl_hi e) = e then 1 else 0) e + (if μ 42 n (rl_lo e) = e ∨ μ 42 n (rl_hi e) = e then 1 else 0) := rfl
      rw [un] at nx
      have rf := (wr_ref H (e := e) (by omega) (by omega)).2 h92
      unfold wr_h at rf
      refine s_LatticefitModel_edgesOf_4 hR ⟨fun q => by omega, fun _ => ?_⟩
      rw [hm]
      refine ⟨by omega, by omega, by omega, fun q => ⟨by omega, by omega, ?_⟩, fun q => ⟨by omega, by omega, ?_⟩⟩
      · rw [if_neg (fun z => rf.2 z q)] at nx; exact nx
      · rw [if_pos (rf.1 q)] at nx; exact nx
  exact lp 84 0 (by omega)
theorem pr_worstStretch {LS d : Nat} {μ : ma_M} (H : Rel μ) : Pr LS d mi_LatticefitLaw_worstStretch [ma_Rf 2 0, ma_Rf 112 0] mi_LatticefitModel_worstStretch [ma_Rf 69 0] agD μ := by
  intro Post hP
  obtain ⟨Hc, Hs, Hz, Hu, Hm, Hr, Hf, Hk⟩ := id H
  have s27 := Hs.2.2.2.1
  have T1 := Rel_thrown H 1
  have N0 := Hc.1
  have N1 := Hc.2.1
  have n8 := Hc.2.2.2.2.2.2.2.2.1
  refine gi_LatticefitLaw_worstStretch (fun R hR => s_LatticefitLaw_worstStretch_0 (d := d + 7) hR ?_)
  refine gi_Latticefit_worstStretch (fun R2 hR2 => s_Latticefit_worstStretch_0 (d := d + 7) hR2 ⟨fun st => ?_, fun st => ?_⟩)
  · have TH := tm_H_of H st
    obtain ⟨Hmm, Hpp⟩ := Hm (by omega)
    refine sp_findLengths (d := d + 7) Hc Hmm (cu_q_of Hpp) (fun m1 a1 a2 => k_Latticefit_worstStretch_9 hR2 ?_)
    obtain ⟨N, hN⟩ : ∃ N : Nat, μ 3 0 10 = (N : Int) := ⟨(μ 3 0 10).toNat, by omega⟩
    obtain ⟨Lf, hLf⟩ : ∃ Lf : Int → Int, Lf = fun n => m1 36 0 n - m1 35 0 n + m1 38 0 n - m1 37 0 n := ⟨_, rfl⟩
    have hL : ∀ n : Int, 0 ≤ n → n < N → cu_len μ n (Lf n) := fun n n0 n1 => by
      rw [hLf]
      have t := a2 n n0 (by omega)
      exact ⟨_, _, _, _, t.2.1, t.2.2, rfl⟩
    have hL2 : ∀ n : Int, 0 ≤ n → n < N → 0 ≤ Lf n ∧ Lf n ≤ 12 ∧ (0 < Lf n → (∃ x, rl_pin μ n x) ∧ 1 ≤ fi_e μ n ∧ fi_e μ n ≤ 49) := fun n n0 n1 => by
      have r := cu_len_rng Hc Hmm (cu_q_of Hpp) n0 (by omega) (hL n n0 n1)
      refine ⟨r.1, r.2, fun q => ?_⟩
      have := ws_edge TH n0 (by omega) (hL n n0 n1) q
      exact ⟨this.1, this.2, fi_rng.2⟩
    have W : ∀ n : Nat, n ≤ N → ws_W (ws_f (fi_e μ) Lf n) := fun n hn => ws_fW n (fun i i0 i1 => ⟨(hL2 i i0 (by omega)).2.1, fun q => ((hL2 i i0 (by omega)).2.2 q).2⟩)
    have QW : ∀ n : Nat, n < N → 0 < Lf n → ws_W (ws_q (fi_e μ n) (Lf n)) := fun n hn q => by
      have t := hL2 n (by omega) (by omega)
      have t2 := t.2.2 q
      exact .inr ⟨_, _, t2.2.1, t2.2.2, by omega, t.2.1, rfl⟩
    have e42 : m1 42 = μ 42 := a1 42 (by decide) (by decide) (by decide) (by decide)
    have e3 : m1 3 = μ 3 := a1 3 (by decide) (by decide) (by decide) (by decide)
    have e69 : m1 69 = μ 69 := a1 69 (by decide) (by decide) (by decide) (by decide)
    have fe : ∀ n, fi_e m1 n = fi_e μ n := fun n => by unfold fi_e; rw [e42]
    -- the reference, from a memory that shows the same
    have ref : ∀ (M : ma_M), (∀ c : Nat, c ≠ 35 → c ≠ 36 → c ≠ 37 → c ≠ 38 → c ≠ 112 → M c = μ c) → ∀ Post2 : ma_R → ma_M → Prop, (∀ A : ma_M, Rel A → A 112 = M 112 → A 69 0 50 = 0 → 0 ≤ (Op.cmpValue (FP.dcmp (ws_f (fi_e μ) Lf N) 0) .g).toInt → Post2 (.inl (some (ma_D (ws_f (fi_e μ) Lf N)))) A) → (∀ A : ma_M, Rel A → A 69 0 50 = 2 → (Op.cmpValue (FP.dcmp (ws_f (fi_e μ) Lf N) 0) .g).toInt < 0 → Post2 (.inl (some (ma_D 0))) A) → ma_Ox LS (d + 12) mi_LatticefitModel_worstStretch [ma_Rf 69 0] M Post2 := by
      intro M hM Post2 p1 p2
      have M69 : M 69 = μ 69 := hM 69 (by decide) (by decide) (by decide) (by decide) (by decide)
      refine gi_LatticefitModel_worstStretch (fun R3 hR3 => s_LatticefitModel_worstStretch_0 (d := d + 8) hR3 ⟨fun _ => ?_, fun q => by rw [M69, s27, if_pos st] at q; omega⟩)
      have c0 : ∀ c : Nat, c ≠ 35 → c ≠ 36 → c ≠ 37 → c ≠ 38 → c ≠ 69 → c ≠ 112 → (ma_up M 69 0 50 0) c = μ c := fun c c1 c2 c3 c4 c5 c6 => by rw [ma_up_ck c5]; exact hM c c1 c2 c3 c4 c6
      have c69 : ∀ f : Int, f ≠ 50 → (ma_up M 69 0 50 0) 69 0 f = μ 69 0 f := fun f hf => by rw [ma_up_ne (by omega), M69]
      have c112 : (ma_up M 69 0 50 0) 112 = M 112 := ma_up_ck (by decide)
      generalize ma_up M 69 0 50 0 = A at c0 c69 c112 ⊢
      have hc : ∀ (l : List Nat), (∀ c ∈ l, c ≠ 35 ∧ c ≠ 36 ∧ c ≠ 37 ∧ c ≠ 38 ∧ c ≠ 69 ∧ c ≠ 112) → ∀ c ∈ l, A c = μ c := fun l hl c hc => by
        obtain ⟨x1, x2, x3, x4, x5, x6⟩ := hl c hc
        exact c0 c x1 x2 x3 x4 x5 x6
      have hc' : ∀ (l : List Nat), (∀ c ∈ l, c ≠ 35 ∧ c ≠ 36 ∧ c ≠ 37 ∧ c ≠ 38 ∧ c ≠ 69 ∧ c ≠ 112) → ∀ c ∈ l, μ c = A c := fun l hl c hcc => (hc l hl c hcc).symm
      have HcA : rl_c A := rl_c_congr (hc _ (by decide)) (fun f hff => c69 f (by rintro rfl; revert hff; decide)) Hc
      have HmA : rl_m A := rl_m_congr (hc _ (by decide)) (fun f hff => c69 f (by rintro rfl; revert hff; decide)) Hmm
      have HpA : rl_p A := rl_p_congr (hc _ (by decide)) Hpp
      refine sp_findsNets (d := d + 9) (fun _ _ => rfl) HcA HmA HpA (fun B d1 d2 => k_LatticefitModel_worstStretch_27 hR3 ?_)
      have d2' : cu_nets μ B := cu_nets_congr (hc' _ (by decide)) d2
      have RB : ∀ t : Int, Rel (ma_up B 69 0 50 t) := fun t => Rel_len H (by omega) (fun c c1 c2 c3 c4 c5 c6 c7 c8 c9 => by rw [ma_up_ck c5, d1 c c6 c7]; exact c0 c c1 c2 c3 c4 c5 c9) (fun f hff => by rw [ma_up_ne (by omega), d1 69 (by decide) (by decide)]; exact c69 f hff) (fun n n0 n1 => by rw [ma_up_ck (by decide), ma_up_ck (by decide)]; exact d2' n n0 n1)
      have b69 : ∀ f : Int, f ≠ 50 → B 69 0 f = μ 69 0 f := fun f hf => by rw [d1 69 (by decide) (by decide)]; exact c69 f hf
      have eA3 : A 3 = μ 3 := hc [3] (by decide) 3 (by decide)
      have b91 : B 91 = μ 91 := by rw [d1 91 (by decide) (by decide)]; exact hc [91] (by decide) 91 (by decide)
      have lp : ∀ (k n : Nat), n + k = N → ∀ u : ma_V, R3 32 [ma_Rf 69 0, ma_D (ws_f (fi_e μ) Lf n), u, ma_I n] [] 0 B := by
        intro k
        induction k with
        | zero =>
          intro n hn u
          have en : n = N := by omega
          rw [en]
          exact s_LatticefitModel_worstStretch_32 hR3 ⟨fun _ => ⟨fun q => p1 _ (RB 0) (by rw [ma_up_ck (by decide), d1 112 (by decide) (by decide)]; exact c112) ma_up_eq q, fun q => p2 _ (RB 2) ma_up_eq q⟩, fun q => by rw [b69 8 (by decide)] at q; omega⟩
        | succ k ih =>
          intro n hn u
          have nx := ih (n + 1) (by omega)
          have t := hL2 n (by omega) (by omega)
          have wl := ws_last (e := fi_e μ) (L := Lf) n
          have nt := (d2' n (by omega) (by omega)).1
          have leq : ∀ L : Int, cu_len A n L → L = Lf n := fun L hh => cu_len_uniq (ws_len_cg (hc' _ (by decide)) hh) (hL n (by omega) (by omega))
          refine s_LatticefitModel_worstStretch_32 hR3 ⟨fun q => by rw [b69 8 (by decide)] at q; omega, fun _ => ⟨by omega, fun q => ⟨by omega, ?_⟩, fun q => ?_⟩⟩
          · have z : Lf n ≤ 0 := by
              by_cases w : 0 < Lf n
              · have := (t.2.2 w).1
                have := nt.2.2 this
                omega
              · omega
            rw [wl.1 z] at nx; exact nx _
          · have hp : ∃ x, rl_pin A n x := by
              obtain ⟨x, hx⟩ := nt.2.1 (by omega)
              exact ⟨x, ws_pin_cg (hc _ (by decide)) hx⟩
            have lenB : ∀ Post : ma_R → ma_M → Prop, Post (.inl (some (ma_I (Lf n)))) B → ma_Ox LS (d + 8 + 3) mi_LatticefitModel_length [ma_Rf 69 0, ma_I n] B Post := fun Post p => sp_length (d := d + 8) HcA HmA HpA (fun c x0 x1 x2 => d1 c x1 x2) d2 (by omega) (by rw [eA3]; omega) hp (fun L hh => by rw [leq L hh]; exact p)
            refine lenB _ (k_LatticefitModel_worstStretch_51 hR3 ⟨fun z => ⟨by omega, ?_⟩, fun z => ?_⟩)
            · rw [wl.1 z] at nx; exact nx _
            · have r92 : ¬ μ 92 0 n = 0 := by
                have := (TH.2.2.2 n (by omega) (by omega)).2.1.2 (t.2.2 z).1
                omega
              refine sp_edgesR (d := d + 10) (μ := μ) b91 (TH.2.2.2 n (by omega) (by omega)) (by omega) (by omega) r92 (k_LatticefitModel_worstStretch_60 hR3 (lenB _ (k_LatticefitModel_worstStretch_66 hR3 ?_)))
              have w1 := ws_ok (W n (by omega))
              have w2 := ws_ok (QW n (by omega) z)
              have gt := fo_gt w2.2.1 w1.2.1
              have un := wl.2 z
              rw [un] at nx
              refine ⟨w2.1, w1.2.1, w2.2.1, w1.2.2, by omega, ?_⟩
              show R3 32 [ma_Rf 69 0, ma_D (if Op.cmpValue (FP.dcmp (ws_f (fi_e μ) Lf n) (ws_q (fi_e μ n) (Lf n))) .l < 0 then ws_q (fi_e μ n) (Lf n) else ws_f (fi_e μ) Lf n), ma_U, ma_I ((n : Int) + 1)] [] 0 B
              by_cases g : 0 < (Op.cmpValue (FP.dcmp (ws_q (fi_e μ n) (Lf n)) (ws_f (fi_e μ) Lf n)) .l).toInt
              · rw [if_pos (gt.1 g)]; rw [if_pos g] at nx; exact nx _
              · rw [if_neg (fun y => g (gt.2 y))]; rw [if_neg g] at nx; exact nx _
      exact lp N 0 (by omega) _
    -- the class
    have lp : ∀ (k n : Nat), n + k = N → ∀ u2 u4 u5 u6 : ma_V, R2 19 [ma_Rf 2 0, ma_D (ws_f (fi_e μ) Lf n), u2, ma_I n, u4, u5, u6] [] 1 m1 := by
      intro k
      induction k with
      | zero =>
        intro n hn u2 u4 u5 u6
        have en : n = N := by omega
        rw [en]
        have wo := ws_ok (W N (Nat.le_refl N))
        refine s_Latticefit_worstStretch_19 hR2 ⟨fun _ => ⟨fun q => k_LatticefitLaw_worstStretch_3 hR ⟨by omega, hP 0 _ (fun Post2 h2 => ?_)⟩, fun q => ?_⟩, fun q => by rw [e3] at q; omega⟩
        · refine ref _ (fun c c1 c2 c3 c4 c5 => by rw [ma_up_ck c5]; exact a1 c c1 c2 c3 c4) Post2 (fun A RA g1 g2 _ => h2 _ A RA g2 (fun _ => ⟨_, rfl, wo.1, ?_⟩)) (fun A _ _ z => by omega)
          rw [g1, ma_up_eq]
        · show R 13 [ma_Rf 2 0, ma_Rf 112 0, ma_U] [ma_X 5] 2 m1
          refine g_LatticefitLaw_worstStretch_13 hR ⟨Nat.le_refl 2, hP 2 m1 (fun Post2 h2 => ?_)⟩
          exact ref m1 (fun c c1 c2 c3 c4 _ => a1 c c1 c2 c3 c4) Post2 (fun A _ _ _ z => by omega) (fun A RA g2 _ => h2 (ma_D 0) A RA g2 (fun z => by omega))
      | succ k ih =>
        intro n hn u2 u4 u5 u6
        have nx := ih (n + 1) (by omega)
        have wl := ws_last (e := fi_e μ) (L := Lf) n
        have jr := a2 n (by omega) (by omega)
        have eL : m1 36 0 n - m1 35 0 n + m1 38 0 n - m1 37 0 n = Lf n := by rw [hLf]
        have t := hL2 n (by omega) (by omega)
        have rr : 0 ≤ m1 35 0 n ∧ m1 35 0 n ≤ 6 ∧ 0 ≤ m1 36 0 n ∧ m1 36 0 n ≤ 6 ∧ 0 ≤ m1 37 0 n ∧ m1 37 0 n ≤ 6 ∧ 0 ≤ m1 38 0 n ∧ m1 38 0 n ≤ 6 := by
          have f : ∀ x, 0 ≤ x ∧ x < 49 → 0 ≤ cu_col x ∧ cu_col x ≤ 6 ∧ 0 ≤ cu_rw x ∧ cu_rw x ≤ 6 := fun x hx => by unfold cu_col cu_rw; omega
          obtain ⟨j0, ⟨_, ⟨x, hx, ex⟩, ⟨y, hy, ey⟩⟩, ⟨_, ⟨z, hz, ez⟩, ⟨w, hw, ew⟩⟩⟩ := jr
          have := f x (j0 x hx)
          have := f y (j0 y hy)
          have := f z (j0 z hz)
          have := f w (j0 w hw)
          omega
        refine s_Latticefit_worstStretch_19 hR2 ⟨fun q => by rw [e3] at q; omega, fun _ => ?_⟩
        rw [eL]
        refine ⟨by omega, by omega, by omega, by omega, fun z => ⟨by omega, ?_⟩, fun z => ?_⟩
        · rw [wl.1 z] at nx; exact nx _ _ _ _
        · refine sp_edgesOf (d := d + 9) (by omega) (by omega) (k_Latticefit_worstStretch_50 hR2 ?_)
          rw [fe n]
          have w2 := ws_ok (QW n (by omega) z)
          have un := wl.2 z
          rw [un] at nx
          refine ⟨w2.1, fun g => ⟨by omega, ?_⟩, fun g => ⟨by omega, ?_⟩⟩
          · rw [if_neg (fun y => by
              have : (Op.cmpValue (FP.dcmp (ws_q (fi_e μ n) (Lf n)) (ws_f (fi_e μ) Lf n)) .l).toInt ≤ 0 := g
              omega)] at nx; exact nx _ _ _ _
          · rw [if_pos (show 0 < (Op.cmpValue (FP.dcmp (ws_q (fi_e μ n) (Lf n)) (ws_f (fi_e μ) Lf n)) .l).toInt from g)] at nx; exact nx _ _ _ _
    exact lp N 0 (by omega) _ _ _ _
  · show R 10 [ma_Rf 2 0, ma_Rf 112 0, ma_U] [ma_X 0] 2 μ
    refine g_LatticefitLaw_worstStretch_10 hR ⟨Nat.le_refl 2, hP 1 μ (fun Post2 h2 => ?_)⟩
    exact gi_LatticefitModel_worstStretch (fun R3 hR3 => s_LatticefitModel_worstStretch_0 (d := d + 8) hR3 ⟨fun q => absurd (by rw [s27, if_neg (by omega)]) q, fun _ => h2 (ma_D 0) _ T1 ma_up_eq (fun z => by omega)⟩)
