/-! isNode of a register, of a gate -/
theorem sp_isNode_r {LS d : Nat} {Post : ma_R → ma_M → Prop} {μ : ma_M} {a b : Int} (H : bg_I μ) (hN : μ 3 0 10 < 24) (hr : μ 3 0 12 < 8) (ha : 0 ≤ a ∧ a < 2) (hb : 0 ≤ b ∧ b < 3) (h : ∀ μ' : ma_M, bg_I μ' → μ' 3 0 10 = μ 3 0 10 + 1 → μ' 3 0 11 = μ 3 0 11 → μ' 3 0 12 = μ 3 0 12 + 1 → μ' 3 0 13 = μ 3 0 13 → Post (.inl (some (ma_I 1))) μ') : ma_Ox LS (d + 4) mi_LatticefitLaw_isNode [ma_Rf 2 0, ma_Rf 69 0, ma_I 114, ma_I a, ma_I b] μ Post := by
  obtain ⟨Hc, Hz, Hs, Hl, H0⟩ := id H
  obtain ⟨l0, l1, l2, l3, Ln, Lo⟩ := id Hl
  have Hc' := Hc
  obtain ⟨n0, n1, i0, i1, r0, r1, o0, o1, m8, m9, m10, m11, -⟩ := Hc'
  have t2 : Int.tmod a 2 = a := Int.tmod_eq_of_lt ha.1 ha.2
  have t3 : Int.tmod b 3 = b := Int.tmod_eq_of_lt hb.1 hb.2
  refine gi_LatticefitLaw_isNode (fun R hR => s_LatticefitLaw_isNode_0 (d := d) hR ?_)
  have q0 : ∀ k9 a9 b9 : Int, ma_up (ma_up (ma_up (ma_up μ 69 0 (10 + 8 * μ 3 0 10) k9) 69 0 (10 + 8 * μ 3 0 10 + 1) a9) 69 0 (10 + 8 * μ 3 0 10 + 2) b9) 69 0 (10 + 8 * μ 3 0 10 + 5) (μ 3 0 10) 69 0 0 = μ 3 0 10 := fun k9 a9 b9 => by rw [ma_up_ne (by omega), ma_up_ne (by omega), ma_up_ne (by omega), ma_up_ne (by omega), l0]
  have q2 : ∀ k9 a9 b9 x9 a8 b8 : Int, ma_up (ma_up (ma_up (ma_up (ma_up (ma_up (ma_up μ 69 0 (10 + 8 * μ 3 0 10) k9) 69 0 (10 + 8 * μ 3 0 10 + 1) a9) 69 0 (10 + 8 * μ 3 0 10 + 2) b9) 69 0 (10 + 8 * μ 3 0 10 + 5) (μ 3 0 10)) 69 0 0 x9) 69 0 (10 + 8 * μ 3 0 10 + 3) a8) 69 0 (10 + 8 * μ 3 0 10 + 4) b8 69 0 2 = μ 3 0 12 := fun k9 a9 b9 x9 a8 b8 => by rw [ma_up_ne (by omega), ma_up_ne (by omega), ma_up_ne (by omega), ma_up_ne (by omega), ma_up_ne (by omega), ma_up_ne (by omega), ma_up_ne (by omega), l2]
  simp only [t2, t3, l0, q0, q2]
  have fin : ∀ (W : ma_M) (w : Int), w = a → (∀ j : Int, W 69 0 j = if j = 2 then μ 3 0 12 + 1 else if j = 10 + 8 * μ 3 0 10 + 4 then b else if j = 10 + 8 * μ 3 0 10 + 3 then a else if j = 0 then μ 3 0 10 + 1 else if j = 10 + 8 * μ 3 0 10 + 5 then μ 3 0 10 else if j = 10 + 8 * μ 3 0 10 + 2 then b else if j = 10 + 8 * μ 3 0 10 + 1 then a else if j = 10 + 8 * μ 3 0 10 then 114 else μ 69 0 j) → (∀ k : Nat, k ≠ 69 → W k = μ k) → ma_Ox LS (d + 3) mi_LatticefitLaw_addRegister [ma_Rf 2 0, ma_I w, ma_I b] W (ma_ct (ma_Ox LS (d + 3)) (LS, [], 2, 3) 144 [ma_U, ma_U, ma_U, ma_U, ma_I b, ma_I (μ 3 0 10), ma_U] [] 1 mt_LatticefitLaw_isNode_147 R (ma_DD (LS, [], 2, 3) Post)) := by
    intro W w hw w69 wk
    have w3 := wk 3 (by decide)
    refine w_LatticefitLaw_addRegister (d := d) ?_
    rw [w3]
    have ok : ∀ x : Int, x = a → ma_ct (ma_Ox LS (d + 3)) (LS, [], 2, 3) 144 [ma_U, ma_U, ma_U, ma_U, ma_I b, ma_I (μ 3 0 10), ma_U] [] 1 mt_LatticefitLaw_isNode_147 R (ma_DD (LS, [], 2, 3) Post) (.inl (some (ma_I (μ 3 0 10)))) (ma_up (ma_up (ma_up (ma_up (ma_up (ma_up (ma_up (ma_up W 2 0 10 0) 4 0 (μ 3 0 10) 114) 8 0 (μ 3 0 10) x) 9 0 (μ 3 0 10) b) 7 0 (μ 3 0 10) (μ 3 0 10)) 12 0 (μ 3 0 12) (μ 3 0 10)) 3 0 12 (μ 3 0 12 + 1)) 3 0 10 (μ 3 0 10 + 1)) := by
      intro x hx
      subst hx
      refine k_LatticefitLaw_isNode_144 (d := d) hR ⟨fun c => absurd rfl c, fun _ => ?_⟩
      obtain ⟨V, hV⟩ : ∃ V, V = ma_up (ma_up (ma_up (ma_up (ma_up (ma_up (ma_up (ma_up W 2 0 10 0) 4 0 (μ 3 0 10) 114) 8 0 (μ 3 0 10) x) 9 0 (μ 3 0 10) b) 7 0 (μ 3 0 10) (μ 3 0 10)) 12 0 (μ 3 0 12) (μ 3 0 10)) 3 0 12 (μ 3 0 12 + 1)) 3 0 10 (μ 3 0 10 + 1) := ⟨_, rfl⟩
      rw [← hV]
      have eo : ∀ k : Nat, k ∉ ([2, 3, 4, 7, 8, 9, 12] : List Nat) → V k = W k := fun k hk => by
        simp only [List.mem_cons, List.not_mem_nil, or_false, not_or] at hk
        rw [hV, ma_up_ck hk.2.1, ma_up_ck hk.2.1, ma_up_ck hk.2.2.2.2.2.2, ma_up_ck hk.2.2.2.1, ma_up_ck hk.2.2.2.2.2.1, ma_up_ck hk.2.2.2.2.1, ma_up_ck hk.2.2.1, ma_up_ck hk.1]
      have e3 : ∀ f : Int, V 3 0 f = if f = 10 then μ 3 0 10 + 1 else if f = 12 then μ 3 0 12 + 1 else μ 3 0 f := fun f => by rw [hV, ← w3]; simp [ma_up_rd]
      have e4 : ∀ i : Int, V 4 0 i = if i = μ 3 0 10 then 114 else μ 4 0 i := fun i => by rw [hV, ← wk 4 (by decide)]; simp [ma_up_rd]
      have e7 : ∀ i : Int, V 7 0 i = if i = μ 3 0 10 then μ 3 0 10 else μ 7 0 i := fun i => by rw [hV, ← wk 7 (by decide)]; simp [ma_up_rd]
      have e8 : ∀ i : Int, V 8 0 i = if i = μ 3 0 10 then x else μ 8 0 i := fun i => by rw [hV, ← wk 8 (by decide)]; simp [ma_up_rd]
      have e9 : ∀ i : Int, V 9 0 i = if i = μ 3 0 10 then b else μ 9 0 i := fun i => by rw [hV, ← wk 9 (by decide)]; simp [ma_up_rd]
      have e12 : ∀ i : Int, V 12 0 i = if i = μ 3 0 12 then μ 3 0 10 else μ 12 0 i := fun i => by rw [hV, ← wk 12 (by decide)]; simp [ma_up_rd]
      have e69 : ∀ j : Int, V 69 0 j = W 69 0 j := fun j => by rw [eo 69 (by decide)]
      have ek : ∀ k : Nat, k ∉ ([2, 3, 4, 7, 8, 9, 12] : List Nat) → k ≠ 69 → V k = μ k := fun k k1 k2 => by rw [eo k k1, wk k k2]
      have e310 : V 3 0 10 = μ 3 0 10 + 1 := by rw [e3]; rfl
      have e311 : V 3 0 11 = μ 3 0 11 := by rw [e3]; rfl
      have e312 : V 3 0 12 = μ 3 0 12 + 1 := by rw [e3]; rfl
      have e313 : V 3 0 13 = μ 3 0 13 := by rw [e3]; rfl
      have e4N : V 4 0 (μ 3 0 10) = 114 := by rw [e4, if_pos rfl]
      refine h V (bg_add H hN (by rw [hV]; rfl) (ek 1 (by decide) (by decide)) (fun k k1 k2 => ek k (by simp only [List.mem_cons, List.not_mem_nil, or_false]; omega) k2) e310 e313 (fun k hk i hi => ?_) (fun j => by rw [ek 13 (by decide) (by decide)]) (.inl ⟨e311, by rw [e4N]; decide, fun j => by rw [ek 11 (by decide) (by decide)]⟩) (.inr ⟨hr, e312, e4N, e12⟩) (fun j j0 j1 => ?_) ?_ ?_ ?_ ?_ ?_ ?_) e310 e311 e312 e313
      · simp only [List.mem_cons, List.not_mem_nil, or_false] at hk
        rcases hk with rfl | rfl | rfl | rfl | rfl | rfl | rfl
        · rw [e4, if_neg hi]
        · rw [ek 5 (by decide) (by decide)]
        · rw [ek 6 (by decide) (by decide)]
        · rw [e7, if_neg hi]
        · rw [e8, if_neg hi]
        · rw [e9, if_neg hi]
        · rw [ek 10 (by decide) (by decide)]
      · rw [e69, w69]; repeat' split
        all_goals omega
      · rw [e69, w69]; repeat' split
        all_goals omega
      · rw [e69, w69]; repeat' split
        all_goals omega
      · rw [e69, w69]; repeat' split
        all_goals omega
      · rw [e69, w69]; repeat' split
        all_goals omega
      · unfold rl_n
        rw [e4N, e7, if_pos rfl, e8, if_pos rfl, e9, if_pos rfl, e310]
        exact ⟨rfl, by decide, fun z => by omega, fun _ => ⟨rfl, by omega, by omega, rfl, by omega, by omega, rfl, by omega⟩, fun _ z => absurd rfl z⟩
      · unfold ln_n
        rw [e4N, e8, if_pos rfl, e9, if_pos rfl, e7, if_pos rfl]
        rw [e69, w69, e69, w69, e69, w69, e69, w69, e69, w69, e69, w69, e69, w69]
        refine ⟨?_, fun z => by omega, fun _ => ⟨?_, ?_, ?_⟩, fun _ z => absurd rfl z⟩
        all_goals (repeat' split)
        all_goals omega
    refine ⟨fun c => by omega, fun _ => ⟨fun _ => ⟨fun c => by omega, fun _ => ⟨fun _ => ⟨by omega, fun c => ⟨by omega, by omega, by omega, ok 0 (by omega)⟩, fun c => ⟨by omega, by omega, by omega, ok 1 (by omega)⟩⟩, fun c => by omega⟩⟩, fun c => by omega⟩⟩
  refine ⟨by omega, by omega, by omega, by omega, by omega, by omega, ?_⟩
  have f0 : ∀ w : Int, w = a → _ := fun w hw => fin (ma_up (ma_up (ma_up (ma_up (ma_up (ma_up (ma_up (ma_up μ 69 0 (10 + 8 * μ 3 0 10) 114) 69 0 (10 + 8 * μ 3 0 10 + 1) a) 69 0 (10 + 8 * μ 3 0 10 + 2) b) 69 0 (10 + 8 * μ 3 0 10 + 5) (μ 3 0 10)) 69 0 0 (μ 3 0 10 + 1)) 69 0 (10 + 8 * μ 3 0 10 + 3) a) 69 0 (10 + 8 * μ 3 0 10 + 4) b) 69 0 2 (μ 3 0 12 + 1)) w hw (fun j => by simp [ma_up_rd]) (fun k hk => by rw [ma_up_ck hk, ma_up_ck hk, ma_up_ck hk, ma_up_ck hk, ma_up_ck hk, ma_up_ck hk, ma_up_ck hk, ma_up_ck hk])
  have f1 := f0 0
  have f2 := f0 1
  clear f0 fin
  repeat' (first | with_reducible refine And.intro ?_ ?_ | intro _)
  all_goals first | omega | exact (‹¬ True› trivial).elim | (with_reducible refine f1 ?_; omega) | (with_reducible refine f2 ?_; omega)
theorem sp_isNode_g {LS d : Nat} {Post : ma_R → ma_M → Prop} {μ : ma_M} {kd a b : Int} (H : bg_I μ) (hN : μ 3 0 10 < 24) (hk : kd = 97 ∨ kd = 111 ∨ kd = 120 ∨ kd = 110) (ha : 0 ≤ a ∧ a < μ 3 0 10) (hb : 0 ≤ b ∧ b < μ 3 0 10) (h : ∀ μ' : ma_M, bg_I μ' → μ' 3 0 10 = μ 3 0 10 + 1 → μ' 3 0 11 = μ 3 0 11 → μ' 3 0 12 = μ 3 0 12 → μ' 3 0 13 = μ 3 0 13 → Post (.inl (some (ma_I 1))) μ') : ma_Ox LS (d + 4) mi_LatticefitLaw_isNode [ma_Rf 2 0, ma_Rf 69 0, ma_I kd, ma_I a, ma_I b] μ Post := by
  obtain ⟨Hc, Hz, Hs, Hl, H0⟩ := id H
  obtain ⟨l0, l1, l2, l3, Ln, Lo⟩ := id Hl
  have Hc' := Hc
  obtain ⟨n0, n1, i0, i1, r0, r1, o0, o1, m8, m9, m10, m11, -⟩ := Hc'
  have t2 : kd % 65536 = kd := by omega
  refine gi_LatticefitLaw_isNode (fun R hR => s_LatticefitLaw_isNode_0 (d := d) hR ?_)
  have q0 : ∀ k9 a9 b9 : Int, ma_up (ma_up (ma_up (ma_up μ 69 0 (10 + 8 * μ 3 0 10) k9) 69 0 (10 + 8 * μ 3 0 10 + 1) a9) 69 0 (10 + 8 * μ 3 0 10 + 2) b9) 69 0 (10 + 8 * μ 3 0 10 + 5) (μ 3 0 10) 69 0 0 = μ 3 0 10 := fun k9 a9 b9 => by rw [ma_up_ne (by omega), ma_up_ne (by omega), ma_up_ne (by omega), ma_up_ne (by omega), l0]
  simp only [t2, l0, q0]
  have fin : ∀ (W : ma_M) (y : Int), y = (if kd = 110 then a else b) → (∀ j : Int, W 69 0 j = if j = 0 then μ 3 0 10 + 1 else if j = 10 + 8 * μ 3 0 10 + 5 then μ 3 0 10 else if j = 10 + 8 * μ 3 0 10 + 2 then y else if j = 10 + 8 * μ 3 0 10 + 1 then a else if j = 10 + 8 * μ 3 0 10 then kd else μ 69 0 j) → (∀ k : Nat, k ≠ 69 → W k = μ k) → ma_Ox LS (d + 3) mi_LatticefitLaw_addGate [ma_Rf 2 0, ma_I kd, ma_I a, ma_I b] W (ma_ct (ma_Ox LS (d + 3)) (LS, [], 2, 3) 164 [ma_Rf 2 0, ma_U, ma_I kd, ma_I a, ma_I b, ma_I (μ 3 0 10), ma_U] [] 1 mt_LatticefitLaw_isNode_167 R (ma_DD (LS, [], 2, 3) Post)) := by
    intro W y hy w69 wk
    have w3 := wk 3 (by decide)
    refine w_LatticefitLaw_addGate (d := d) ?_
    rw [w3]
    have ok : ∀ x : Int, x = y → ma_ct (ma_Ox LS (d + 3)) (LS, [], 2, 3) 164 [ma_Rf 2 0, ma_U, ma_I kd, ma_I a, ma_I b, ma_I (μ 3 0 10), ma_U] [] 1 mt_LatticefitLaw_isNode_167 R (ma_DD (LS, [], 2, 3) Post) (.inl (some (ma_I (μ 3 0 10)))) (ma_up (ma_up (ma_up (ma_up (ma_up W 2 0 10 0) 4 0 (μ 3 0 10) kd) 5 0 (μ 3 0 10) a) 6 0 (μ 3 0 10) x) 3 0 10 (μ 3 0 10 + 1)) := by
      intro x hx
      subst hx
      refine k_LatticefitLaw_isNode_164 (d := d) hR ⟨fun c => absurd rfl c, fun _ => ?_⟩
      obtain ⟨V, hV⟩ : ∃ V, V = ma_up (ma_up (ma_up (ma_up (ma_up W 2 0 10 0) 4 0 (μ 3 0 10) kd) 5 0 (μ 3 0 10) a) 6 0 (μ 3 0 10) x) 3 0 10 (μ 3 0 10 + 1) := ⟨_, rfl⟩
      rw [← hV]
      have eo : ∀ k : Nat, k ∉ ([2, 3, 4, 5, 6] : List Nat) → V k = W k := fun k hk => by
        simp only [List.mem_cons, List.not_mem_nil, or_false, not_or] at hk
        rw [hV, ma_up_ck hk.2.1, ma_up_ck hk.2.2.2.2, ma_up_ck hk.2.2.2.1, ma_up_ck hk.2.2.1, ma_up_ck hk.1]
      have e3 : ∀ f : Int, V 3 0 f = if f = 10 then μ 3 0 10 + 1 else μ 3 0 f := fun f => by rw [hV, ← w3]; simp [ma_up_rd]
      have e4 : ∀ i : Int, V 4 0 i = if i = μ 3 0 10 then kd else μ 4 0 i := fun i => by rw [hV, ← wk 4 (by decide)]; simp [ma_up_rd]
      have e5 : ∀ i : Int, V 5 0 i = if i = μ 3 0 10 then a else μ 5 0 i := fun i => by rw [hV, ← wk 5 (by decide)]; simp [ma_up_rd]
      have e6 : ∀ i : Int, V 6 0 i = if i = μ 3 0 10 then x else μ 6 0 i := fun i => by rw [hV, ← wk 6 (by decide)]; simp [ma_up_rd]
      have e69 : ∀ j : Int, V 69 0 j = W 69 0 j := fun j => by rw [eo 69 (by decide)]
      have ek : ∀ k : Nat, k ∉ ([2, 3, 4, 5, 6] : List Nat) → k ≠ 69 → V k = μ k := fun k k1 k2 => by rw [eo k k1, wk k k2]
      have e310 : V 3 0 10 = μ 3 0 10 + 1 := by rw [e3]; rfl
      have e311 : V 3 0 11 = μ 3 0 11 := by rw [e3]; rfl
      have e312 : V 3 0 12 = μ 3 0 12 := by rw [e3]; rfl
      have e313 : V 3 0 13 = μ 3 0 13 := by rw [e3]; rfl
      have e4N : V 4 0 (μ 3 0 10) = kd := by rw [e4, if_pos rfl]
      have hx0 : 0 ≤ x ∧ x < μ 3 0 10 ∧ (kd = 110 → x = a) := by
        rw [hy]; split <;> omega
      refine h V (bg_add H hN (by rw [hV]; rfl) (ek 1 (by decide) (by decide)) (fun k k1 k2 => ek k (by simp only [List.mem_cons, List.not_mem_nil, or_false]; omega) k2) e310 e313 (fun k hk i hi => ?_) (fun j => by rw [ek 13 (by decide) (by decide)]) (.inl ⟨e311, by rw [e4N]; omega, fun j => by rw [ek 11 (by decide) (by decide)]⟩) (.inl ⟨e312, by rw [e4N]; omega, fun j => by rw [ek 12 (by decide) (by decide)]⟩) (fun j j0 j1 => ?_) ?_ ?_ ?_ ?_ ?_ ?_) e310 e311 e312 e313
      · simp only [List.mem_cons, List.not_mem_nil, or_false] at hk
        rcases hk with rfl | rfl | rfl | rfl | rfl | rfl | rfl
        · rw [e4, if_neg hi]
        · rw [e5, if_neg hi]
        · rw [e6, if_neg hi]
        · rw [ek 7 (by decide) (by decide)]
        · rw [ek 8 (by decide) (by decide)]
        · rw [ek 9 (by decide) (by decide)]
        · rw [ek 10 (by decide) (by decide)]
      · rw [e69, w69]; repeat' split
        all_goals omega
      · rw [e69, w69]; repeat' split
        all_goals omega
      · rw [e69, w69]; repeat' split
        all_goals omega
      · rw [e69, w69]; repeat' split
        all_goals omega
      · rw [e69, w69]; repeat' split
        all_goals omega
      · unfold rl_n
        rw [e4N, e5, if_pos rfl, e6, if_pos rfl]
        exact ⟨rfl, by omega, fun z => by omega, fun z => by omega, fun _ _ => ⟨rfl, by omega, by omega, rfl, by omega, by omega, hx0.2.2⟩⟩
      · unfold ln_n
        rw [e4N, e5, if_pos rfl, e6, if_pos rfl]
        rw [e69, w69, e69, w69, e69, w69, e69, w69, e69, w69, e69, w69, e69, w69]
        refine ⟨?_, fun z => by omega, fun z => by omega, fun _ _ => ⟨?_, ?_⟩⟩
        all_goals (repeat' split)
        all_goals omega
    have oka := ok a
    have okb := ok b
    have y1 : kd = 110 → a = y := fun z => by rw [hy, if_pos z]
    have y2 : ¬ kd = 110 → b = y := fun z => by rw [hy, if_neg z]
    clear ok w69 hy
    repeat' (first | with_reducible refine And.intro ?_ ?_ | intro _)
    all_goals first | omega | (with_reducible refine oka ?_; omega) | (with_reducible refine okb ?_; omega)
  refine ⟨by omega, by omega, by omega, by omega, by omega, by omega, ?_⟩
  have f0 : ∀ y : Int, y = (if kd = 110 then a else b) → _ := fun y hy => fin (ma_up (ma_up (ma_up (ma_up (ma_up μ 69 0 (10 + 8 * μ 3 0 10) kd) 69 0 (10 + 8 * μ 3 0 10 + 1) a) 69 0 (10 + 8 * μ 3 0 10 + 2) y) 69 0 (10 + 8 * μ 3 0 10 + 5) (μ 3 0 10)) 69 0 0 (μ 3 0 10 + 1)) y hy (fun j => by simp [ma_up_rd]) (fun k hk => by rw [ma_up_ck hk, ma_up_ck hk, ma_up_ck hk, ma_up_ck hk, ma_up_ck hk])
  have f1 : kd = 110 → _ := fun z => f0 a (by rw [if_pos z])
  have f2 : ¬ kd = 110 → _ := fun z => f0 b (by rw [if_neg z])
  clear f0 fin
  repeat' (first | with_reducible refine And.intro ?_ ?_ | intro _)
  all_goals first | omega | exact (‹¬ True› trivial).elim | (with_reducible refine f1 ?_; omega) | (with_reducible refine f2 ?_; omega)
