/-! anneal: the class -/
def cu_cq (μ : ma_M) (q : Int → Int) (v : Int) : Prop := cu_cost (cu_vw μ (μ 33 0) q) v
def cu_eq (μ : ma_M) (q : Int → Int) (v : Int) : Prop := cu_ex (cu_vw μ (μ 33 0) q) v
/-- a memory of the class on its way -/
def cu_at (μ : ma_M) (p q : Int → Int) (m : ma_M) : Prop := (∀ c : Nat, c ≠ 32 → c ≠ 33 → c ≠ 35 → c ≠ 36 → c ≠ 37 → c ≠ 38 → c ≠ 39 → m c = μ c) ∧ m 33 0 = p ∧ m 32 0 = q ∧ (∀ r x : Int, r ≠ 0 → m 32 r x = μ 32 r x)
theorem cu_at_cells {μ m : ma_M} {p q : Int → Int} (h : cu_at μ p q m) (l : List Nat) (hl : ∀ c ∈ l, c ≠ 32 ∧ c ≠ 33 ∧ c ≠ 35 ∧ c ≠ 36 ∧ c ≠ 37 ∧ c ≠ 38 ∧ c ≠ 39) : ∀ c ∈ l, m c = μ c := fun c hc => by
  obtain ⟨a1, a2, a3, a4, a5, a6, a7⟩ := hl c hc
  exact h.1 c a1 a2 a3 a4 a5 a6 a7
theorem cu_at_32 {μ m : ma_M} {p q : Int → Int} (h : cu_at μ p q m) : cu_vw μ (μ 33 0) q 32 = m 32 := by
  funext r x
  by_cases e : r = 0
  · rw [e, (cu_vw_rd μ (μ 33 0) q).1, h.2.2.1]
  · rw [h.2.2.2 r x e]; simp [cu_vw, e]
theorem cu_at_cost {μ m : ma_M} {p q : Int → Int} {v : Int} (h : cu_at μ p q m) (hv : cu_cost m v) : cu_cq μ q v := by
  refine cu_cost_congr (fun c hc => ?_) hv
  by_cases e : c = 32
  · rw [e]; exact cu_at_32 h
  · rw [(cu_vw_rd μ (μ 33 0) q).2.2 c e (by rintro rfl; revert hc; decide)]
    exact (h.1 c e (by rintro rfl; revert hc; decide) (by rintro rfl; revert hc; decide) (by rintro rfl; revert hc; decide) (by rintro rfl; revert hc; decide) (by rintro rfl; revert hc; decide) (by rintro rfl; revert hc; decide)).symm
theorem cu_at_ex {μ m : ma_M} {p q : Int → Int} {v : Int} (h : cu_at μ p q m) (hv : cu_ex m v) : cu_eq μ q v := by
  refine cu_ex_congr (fun c hc => ?_) hv
  by_cases e : c = 32
  · rw [e]; exact cu_at_32 h
  · rw [(cu_vw_rd μ (μ 33 0) q).2.2 c e (by rintro rfl; revert hc; decide)]
    exact (h.1 c e (by rintro rfl; revert hc; decide) (by rintro rfl; revert hc; decide) (by rintro rfl; revert hc; decide) (by rintro rfl; revert hc; decide) (by rintro rfl; revert hc; decide) (by rintro rfl; revert hc; decide)).symm
theorem cu_at_rel {μ m : ma_M} {p q : Int → Int} (h : cu_at μ p q m) (Hc : rl_c μ) (Hm : rl_m μ) (Hl : cu_pl (μ 21 0 7) p q) : rl_c m ∧ rl_m m ∧ cu_q m := by
  have e69 : m 69 = μ 69 := h.1 69 (by decide) (by decide) (by decide) (by decide) (by decide) (by decide) (by decide)
  refine ⟨rl_c_congr (cu_at_cells h _ (by decide)) Hc, rl_m_congr (cu_at_cells h _ (by decide)) Hm, ⟨fun b b0 b1 => ?_, trivial⟩⟩
  rw [h.1 21 (by decide) (by decide) (by decide) (by decide) (by decide) (by decide) (by decide)] at b1
  have := Hl.1 b b0 b1
  rw [h.2.2.1]; exact ⟨trivial, this.1, this.2.1, trivial⟩
theorem cu_at_scr {μ m m' : ma_M} {p q : Int → Int} (h : cu_at μ p q m) (hf : ∀ c : Nat, c ≠ 35 → c ≠ 36 → c ≠ 37 → c ≠ 38 → c ≠ 39 → m' c = m c) : cu_at μ p q m' :=
  ⟨fun c c1 c2 c3 c4 c5 c6 c7 => by rw [hf c c3 c4 c5 c6 c7]; exact h.1 c c1 c2 c3 c4 c5 c6 c7, by rw [hf 33 (by decide) (by decide) (by decide) (by decide) (by decide)]; exact h.2.1, by rw [hf 32 (by decide) (by decide) (by decide) (by decide) (by decide)]; exact h.2.2.1, fun r x hr => by rw [hf 32 (by decide) (by decide) (by decide) (by decide) (by decide)]; exact h.2.2.2 r x hr⟩
theorem cu_at_x {μ m : ma_M} {p q : Int → Int} {a b : Int} (h : cu_at μ p q m) : cu_at μ (cu_xp p a b) (cu_xq p q a b) (cu_xm 33 32 m a b) := by
  obtain ⟨h1, h2, h3, h4⟩ := h
  obtain ⟨x1, x2, x3, x4⟩ := cu_xm_rd (kp := 33) (kq := 32) (by decide) (μ := m) (a := a) (b := b)
  refine ⟨fun c c1 c2 c3 c4 c5 c6 c7 => by rw [x3 c c2 c1]; exact h1 c c1 c2 c3 c4 c5 c6 c7, ?_, ?_, fun r x hr => by rw [(x4 r x hr).2]; exact h4 r x hr⟩
  · funext x; rw [x1, h2]
  · funext x; rw [x2, h2, h3]
/-- whether an exchange stays -/
def cu_G (μ : ma_M) (w : Int) (q q1 : Int → Int) (b : Bool) : Prop := ∃ e0 v0 e1 : Int, cu_eq μ q e0 ∧ cu_cq μ q v0 ∧ cu_eq μ q1 e1 ∧ (b = true ↔ e1 ≤ e0 ∧ ∃ v1, cu_cq μ q1 v1 ∧ v1 - v0 < w)
theorem cu_G_uniq {μ : ma_M} {w : Int} {q q1 : Int → Int} {b b' : Bool} (N0 : 0 ≤ μ 3 0 10) (h : cu_G μ w q q1 b) (h' : cu_G μ w q q1 b') : b = b' := by
  obtain ⟨e0, v0, e1, a1, a2, a3, a4⟩ := h
  obtain ⟨e0', v0', e1', b1, b2, b3, b4⟩ := h'
  have i1 := cu_ex_uniq a1 b1
  have N0' : 0 ≤ cu_vw μ (μ 33 0) q 3 0 10 := by rw [(cu_vw_rd μ (μ 33 0) q).2.2 3 (by decide) (by decide)]; exact N0
  have i2 := cu_cost_uniq N0' a2 b2
  have i3 := cu_ex_uniq a3 b3
  subst i1; subst i2; subst i3
  have := a4.trans b4.symm
  cases b <;> cases b' <;> simp_all
theorem sp_swapIfGood {LS d : Nat} {Post : ma_R → ma_M → Prop} {μ m : ma_M} {p q : Int → Int} {a b w : Int} (Hc : rl_c μ) (Hm : rl_m μ) (Hl : cu_pl (μ 21 0 7) p q) (hm : cu_at μ p q m) (a0 : 0 ≤ a) (a1 : a < 36) (b0 : 0 ≤ b) (b1 : b < 36) (w0 : -1000 ≤ w) (w1 : w ≤ 1000)
    (h1 : ∀ m' : ma_M, cu_at μ (cu_xp p a b) (cu_xq p q a b) m' → cu_G μ w q (cu_xq p q a b) true → Post (.inl (some (ma_I 1))) m')
    (h0 : ∀ m' : ma_M, cu_at μ (cu_xp (cu_xp p a b) a b) (cu_xq (cu_xp p a b) (cu_xq p q a b) a b) m' → cu_G μ w q (cu_xq p q a b) false → Post (.inl (some (ma_I 0))) m') :
    ma_Ox LS (d + 4) mi_Places_swapIfGood [ma_Rf 31 0, ma_I a, ma_I b, ma_I w] m Post := by
  have B1 := Hm.2.1
  obtain ⟨r1, r2, r3⟩ := cu_at_rel hm Hc Hm Hl
  have Hl1 := cu_pl_x Hl a0 a1 b0 b1
  -- values of an exchange
  have vals : ∀ (m : ma_M) (p q : Int → Int), cu_at μ p q m → cu_pl (μ 21 0 7) p q → cu_x1 33 m a b 33 0 a < 48 ∧ cu_x1 33 m a b 33 0 b < 48 := by
    intro m p q hm Hl
    rw [cu_x1_rd, cu_x1_rd, hm.2.1]
    have x := (cu_pl_x Hl a0 a1 b0 b1).2 a a0 a1
    have y := (cu_pl_x Hl a0 a1 b0 b1).2 b b0 b1
    omega
  refine gi_Places_swapIfGood (fun R hR => s_Places_swapIfGood_0 hR (sp_clockExcess (d := d + 1) r1 r2 r3 (fun e0 m1 f1 x0 => k_Places_swapIfGood_1 hR ?_)))
  have at1 : cu_at μ p q m1 := cu_at_scr hm (fun c _ _ _ _ c5 => f1 c c5)
  obtain ⟨s1, s2, s3⟩ := cu_at_rel at1 Hc Hm Hl
  refine sp_findLengths (d := d) s1 s2 s3 (fun m2 f2 j2 => k_Places_swapIfGood_7 hR ⟨⟨a0, a1⟩, ⟨b0, b1⟩, ?_⟩)
  have at2 : cu_at μ p q m2 := cu_at_scr at1 (fun c c1 c2 c3 c4 _ => f2 c c1 c2 c3 c4)
  have c0 := cu_J_cost j2
  have c0r := cu_cost_rng s1 s2 s3 c0
  obtain ⟨v0, ev0⟩ : ∃ v0 : Int, v0 = ma_sum (fun n => m2 36 0 n - m2 35 0 n + m2 38 0 n - m2 37 0 n) (m1 3 0 10).toNat := ⟨_, rfl⟩
  rw [← ev0] at c0 c0r ⊢
  have ce0 := cu_at_ex hm x0
  have cv0 := cu_at_cost at1 c0
  have V2 := vals m2 p q at2 Hl
  refine cu_xw (kp := 33) (kq := 32) (μ := m2) (a := a) (b := b) (Q := fun M => ma_Ox LS (d + 3) mi_Places_clockExcess [ma_Rf 31 0] M (ma_ct (ma_Ox LS (d + 3)) (LS, [], 2, 0) 19 [ma_Rf 31 0, ma_I a, ma_I b, ma_I w, ma_I e0, ma_I v0] [] 0 mt_Places_swapIfGood_22 R (ma_DD (LS, [], 2, 0) Post))) V2.1 V2.2 ?_
  have at3 := cu_at_x (a := a) (b := b) at2
  obtain ⟨t1, t2, t3⟩ := cu_at_rel at3 Hc Hm Hl1
  refine sp_clockExcess (d := d + 1) t1 t2 t3 (fun e1 m4 f4 x1 => k_Places_swapIfGood_19 hR ?_)
  have at4 : cu_at μ (cu_xp p a b) (cu_xq p q a b) m4 := cu_at_scr at3 (fun c _ _ _ _ c5 => f4 c c5)
  have ce1 := cu_at_ex at3 x1
  refine ⟨fun lt => ⟨⟨a0, a1⟩, ⟨b0, b1⟩, ?_⟩, fun le => ?_⟩
  · have V4 := vals m4 _ _ at4 Hl1
    refine cu_xw (kp := 33) (kq := 32) (μ := m4) (a := a) (b := b) (Q := fun M => Post (.inl (some (ma_I 0))) M) V4.1 V4.2 ?_
    exact h0 _ (cu_at_x at4) ⟨e0, v0, e1, ce0, cv0, ce1, ⟨fun z => absurd z (by decide), fun z => by omega⟩⟩
  · obtain ⟨u1, u2, u3⟩ := cu_at_rel at4 Hc Hm Hl1
    refine sp_findLengths (d := d) u1 u2 u3 (fun m5 f5 j5 => k_Places_swapIfGood_28 hR ?_)
    have at5 : cu_at μ (cu_xp p a b) (cu_xq p q a b) m5 := cu_at_scr at4 (fun c c1 c2 c3 c4 _ => f5 c c1 c2 c3 c4)
    have c5 := cu_J_cost j5
    have c5r := cu_cost_rng u1 u2 u3 c5
    obtain ⟨v1, ev1⟩ : ∃ v1 : Int, v1 = ma_sum (fun n => m5 36 0 n - m5 35 0 n + m5 38 0 n - m5 37 0 n) (m4 3 0 10).toNat := ⟨_, rfl⟩
    rw [← ev1] at c5 c5r ⊢
    have cv1 := cu_at_cost at4 c5
    refine ⟨by omega, fun ge => ⟨⟨a0, a1⟩, ⟨b0, b1⟩, ?_⟩, fun lt => ?_⟩
    · have V5 := vals m5 _ _ at5 Hl1
      refine cu_xw (kp := 33) (kq := 32) (μ := m5) (a := a) (b := b) (Q := fun M => Post (.inl (some (ma_I 0))) M) V5.1 V5.2 ?_
      refine h0 _ (cu_at_x at5) ⟨e0, v0, e1, ce0, cv0, ce1, ⟨fun z => absurd z (by decide), fun ⟨_, v, hv, lt⟩ => ?_⟩⟩
      have N0' : 0 ≤ cu_vw μ (μ 33 0) (cu_xq p q a b) 3 0 10 := by rw [(cu_vw_rd μ (μ 33 0) (cu_xq p q a b)).2.2 3 (by decide) (by decide)]; exact Hc.1
      have := cu_cost_uniq N0' hv cv1
      omega
    · exact h1 _ at5 ⟨e0, v0, e1, ce0, cv0, ce1, ⟨fun _ => ⟨le, v1, cv1, lt⟩, fun _ => rfl⟩⟩
/-- the chances -/
def cu_nx (x : Int) : Int := Int.tmod (ma_wL (ma_wL (x * 1103515245) + 12345)) 2147483648
def cu_tl (x : Int) : Int := ma_wI (Int.tmod (ma_wL (Int.tdiv x 65536)) 36)
theorem cu_nx_rng {x : Int} (h0 : 0 ≤ x) (h1 : x < 2147483648) : 0 ≤ cu_nx x ∧ cu_nx x < 2147483648 := by
  unfold cu_nx
  have e1 : ma_wL (x * 1103515245) = x * 1103515245 := lg_wL_id (by omega)
  rw [e1, lg_wL_id (by omega), tm_nn (by omega)]; omega
theorem cu_tl_rng {x : Int} (h0 : 0 ≤ x) (h1 : x < 2147483648) : 0 ≤ cu_tl x ∧ cu_tl x < 36 := by
  unfold cu_tl
  rw [td_nn h0, lg_wL_id (by omega), tm_nn (by omega), lg_wI_id (by omega)]; omega
def an_X (x : Int) : Nat → Int
  | 0 => x
  | i + 1 => cu_nx (cu_nx (an_X x i))
theorem an_X_rng {x : Int} (h0 : 0 ≤ x) (h1 : x < 2147483648) : ∀ i, 0 ≤ an_X x i ∧ an_X x i < 2147483648
  | 0 => ⟨h0, h1⟩
  | i + 1 => by
    have a := an_X_rng h0 h1 i
    have b := cu_nx_rng a.1 a.2
    exact cu_nx_rng b.1 b.2
def an_W (h : Int) : Nat → Int
  | 0 => h
  | i + 1 => if Int.tmod ((i : Int) + 1) 8 = 0 ∧ 1 < an_W h i then an_W h i - 1 else an_W h i
theorem an_W_rng {h : Int} (h0 : 1 ≤ h) (h1 : h ≤ 50) : ∀ i, 1 ≤ an_W h i ∧ an_W h i ≤ 50
  | 0 => ⟨h0, h1⟩
  | i + 1 => by
    have := an_W_rng h0 h1 i
    have e : an_W h (i + 1) = if Int.tmod ((i : Int) + 1) 8 = 0 ∧ 1 < an_W h i then an_W h i - 1 else an_W h i := rfl
    rw [e]; split <;> omega
abbrev an_can (μ : ma_M) (p : Int → Int) (c d : Int) : Prop := c ≠ d ∧ (0 ≤ p c ∨ 0 ≤ p d) ∧ (p c < 0 ∨ μ 34 0 (p c) = 0) ∧ (p d < 0 ∨ μ 34 0 (p d) = 0)
def an_c (x : Int) (i : Nat) : Int := cu_tl (cu_nx (an_X x i))
def an_d (x : Int) (i : Nat) : Int := cu_tl (cu_nx (cu_nx (an_X x i)))
abbrev an_Pl := (Int → Int) × (Int → Int)
def an_x (s : an_Pl) (a b : Int) : an_Pl := (cu_xp s.1 a b, cu_xq s.1 s.2 a b)
def an_S (μ : ma_M) (x : Int) (g : Nat → Bool) : Nat → an_Pl
  | 0 => (μ 33 0, μ 32 0)
  | i + 1 => if an_can μ (an_S μ x g i).1 (an_c x i) (an_d x i) then (if g i = true then an_x (an_S μ x g i) (an_c x i) (an_d x i) else an_x (an_x (an_S μ x g i) (an_c x i) (an_d x i)) (an_c x i) (an_d x i)) else an_S μ x g i
theorem an_S_succ (μ : ma_M) (x : Int) (g : Nat → Bool) (i : Nat) : an_S μ x g (i + 1) = if an_can μ (an_S μ x g i).1 (an_c x i) (an_d x i) then (if g i = true then an_x (an_S μ x g i) (an_c x i) (an_d x i) else an_x (an_x (an_S μ x g i) (an_c x i) (an_d x i)) (an_c x i) (an_d x i)) else an_S μ x g i := rfl
def an_N (μ : ma_M) (x : Int) (g : Nat → Bool) : Nat → Int
  | 0 => 0
  | i + 1 => an_N μ x g i + (if an_can μ (an_S μ x g i).1 (an_c x i) (an_d x i) ∧ g i = true then 1 else 0)
theorem an_N_succ (μ : ma_M) (x : Int) (g : Nat → Bool) (i : Nat) : an_N μ x g (i + 1) = an_N μ x g i + (if an_can μ (an_S μ x g i).1 (an_c x i) (an_d x i) ∧ g i = true then 1 else 0) := rfl
theorem an_S_cg {μ : ma_M} {x : Int} {g g' : Nat → Bool} : ∀ i, (∀ j, j < i → g j = g' j) → an_S μ x g i = an_S μ x g' i ∧ an_N μ x g i = an_N μ x g' i
  | 0, _ => ⟨rfl, rfl⟩
  | i + 1, h => by
    obtain ⟨a, b⟩ := an_S_cg (μ := μ) (x := x) i (fun j hj => h j (by omega))
    rw [an_S_succ, an_S_succ, an_N_succ, an_N_succ, a, b, h i (by omega)]
    exact ⟨rfl, rfl⟩
theorem an_S_pl {μ : ma_M} {x : Int} {g : Nat → Bool} (x0 : 0 ≤ x) (x1 : x < 2147483648) (H : cu_pl (μ 21 0 7) (μ 33 0) (μ 32 0)) : ∀ i, cu_pl (μ 21 0 7) (an_S μ x g i).1 (an_S μ x g i).2
  | 0 => H
  | i + 1 => by
    have ih := an_S_pl (g := g) x0 x1 H i
    have r := an_X_rng x0 x1 i
    have r1 := cu_nx_rng r.1 r.2
    have r2 := cu_nx_rng r1.1 r1.2
    have c := cu_tl_rng r1.1 r1.2
    have d := cu_tl_rng r2.1 r2.2
    rw [an_S_succ]
    split
    · split
      · exact cu_pl_x ih c.1 c.2 d.1 d.2
      · exact cu_pl_x (cu_pl_x ih c.1 c.2 d.1 d.2) c.1 c.2 d.1 d.2
    · exact ih
theorem an_N_rng (μ : ma_M) (x : Int) (g : Nat → Bool) : ∀ i : Nat, 0 ≤ an_N μ x g i ∧ an_N μ x g i ≤ i
  | 0 => ⟨Int.le_refl 0, Int.le_refl 0⟩
  | i + 1 => by have := an_N_rng μ x g i; rw [an_N_succ]; split <;> omega
/-- the decisions are those of the costs -/
def an_ok (μ : ma_M) (x h : Int) (g : Nat → Bool) (n : Nat) : Prop := ∀ i : Nat, i < n → an_can μ (an_S μ x g i).1 (an_c x i) (an_d x i) → cu_G μ (an_W h i) (an_S μ x g i).2 (an_x (an_S μ x g i) (an_c x i) (an_d x i)).2 (g i)
theorem sp_swapByChance {LS d : Nat} {Post : ma_R → ma_M → Prop} {μ : ma_M} {x h : Int} {n : Nat} (Hc : rl_c μ) (Hm : rl_m μ) (Hp : rl_p μ) (x0 : 0 ≤ x) (x1 : x < 2147483648) (h0 : 1 ≤ h) (h1 : h ≤ 50) (hn : n ≤ 200)
    (hh : ∀ (g : Nat → Bool) (m : ma_M), an_ok μ x h g n → cu_at μ (an_S μ x g n).1 (an_S μ x g n).2 m → Post (.inl (some (ma_I (an_N μ x g n)))) m) :
    ma_Ox LS (d + 5) mi_Places_swapByChance [ma_Rf 31 0, ma_I x, ma_I n, ma_I h] μ Post := by
  have Hl := cu_pl_of Hp
  have B1 := Hm.2.1
  have fx : ∀ b : Int, 0 ≤ b → b < μ 21 0 7 → μ 34 0 b = 0 ∨ μ 34 0 b = 1 := fun b b0 b1 => (Hp.1 b b0 b1).2.2.2.2.2
  refine gi_Places_swapByChance (fun R hR => s_Places_swapByChance_0 hR ?_)
  have lp : ∀ (k i : Nat) (g : Nat → Bool) (m : ma_M) (u1 u3 u5 u9 u10 : ma_V), i + k = n → an_ok μ x h g i → cu_at μ (an_S μ x g i).1 (an_S μ x g i).2 m → R 13 [ma_Rf 31 0, u1, ma_I n, u3, ma_L (an_X x i), u5, ma_I (an_W h i), ma_I (an_N μ x g i), ma_I ((i : Int) + 1), u9, u10] [] 0 m := by
    intro k
    induction k with
    | zero =>
      intro i g m u1 u3 u5 u9 u10 hi hok hat
      have ei : i = n := by omega
      subst ei
      exact s_Places_swapByChance_13 hR ⟨fun _ => hh g m hok hat, fun q => by omega⟩
    | succ k ih =>
      intro i g m u1 u3 u5 u9 u10 hi hok hat
      have r := an_X_rng x0 x1 i
      have r1 := cu_nx_rng r.1 r.2
      have r2 := cu_nx_rng r1.1 r1.2
      have cr : 0 ≤ an_c x i ∧ an_c x i < 36 := cu_tl_rng r1.1 r1.2
      have dr : 0 ≤ an_d x i ∧ an_d x i < 36 := cu_tl_rng r2.1 r2.2
      have wr := an_W_rng h0 h1 i
      have nr := an_N_rng μ x g i
      have pl := an_S_pl (g := g) x0 x1 Hl i
      have m34 : m 34 = μ 34 := hat.1 34 (by decide) (by decide) (by decide) (by decide) (by decide) (by decide) (by decide)
      have m33 : m 33 0 = (an_S μ x g i).1 := hat.2.1
      have pc := pl.2 _ cr.1 cr.2
      have pd := pl.2 _ dr.1 dr.2
      -- the end of a step
      have wn : an_W h (i + 1) = if Int.tmod ((i : Int) + 1) 8 = 0 ∧ 1 < an_W h i then an_W h i - 1 else an_W h i := rfl
      have fin : ∀ (g' : Nat → Bool) (m' : ma_M) (N' : Int), N' = an_N μ x g' (i + 1) → an_ok μ x h g' (i + 1) → cu_at μ (an_S μ x g' (i + 1)).1 (an_S μ x g' (i + 1)).2 m' →
          ((¬ (Int.tmod ((i : Int) + 1) 8) = 0 → (-2147483648 ≤ (((i : Int) + 1) + 1) ∧ (((i : Int) + 1) + 1) < 2147483648) ∧ R 13 [ma_Rf 31 0, ma_U, ma_I n, ma_U, ma_L (cu_nx (cu_nx (an_X x i))), ma_U, ma_I (an_W h i), ma_I N', ma_I (((i : Int) + 1) + 1), ma_U, ma_U] [] 0 m') ∧ ((Int.tmod ((i : Int) + 1) 8) = 0 → ((an_W h i ≤ 1 → (-2147483648 ≤ (((i : Int) + 1) + 1) ∧ (((i : Int) + 1) + 1) < 2147483648) ∧ R 13 [ma_Rf 31 0, ma_U, ma_I n, ma_U, ma_L (cu_nx (cu_nx (an_X x i))), ma_U, ma_I (an_W h i), ma_I N', ma_I (((i : Int) + 1) + 1), ma_U, ma_U] [] 0 m') ∧ (1 < an_W h i → (-2147483648 ≤ (an_W h i + (-1)) ∧ (an_W h i + (-1)) < 2147483648) ∧ (-2147483648 ≤ (((i : Int) + 1) + 1) ∧ (((i : Int) + 1) + 1) < 2147483648) ∧ R 13 [ma_Rf 31 0, ma_U, ma_I n, ma_U, ma_L (cu_nx (cu_nx (an_X x i))), ma_U, ma_I (an_W h i + (-1)), ma_I N', ma_I (((i : Int) + 1) + 1), ma_U, ma_U] [] 0 m')))) := by
        intro g' m' N' hN ok' at'
        have nx := ih (i + 1) g' m' ma_U ma_U ma_U ma_U ma_U (by omega) ok' at'
        rw [← hN, show (((i + 1 : Nat) : Int)) = (i : Int) + 1 from by omega] at nx
        refine ⟨fun z => ⟨by omega, ?_⟩, fun z => ⟨fun z2 => ⟨by omega, ?_⟩, fun z2 => ⟨by omega, by omega, ?_⟩⟩⟩
        · rw [wn, if_neg (fun y => z y.1)] at nx; exact nx
        · rw [wn, if_neg (fun y => by omega)] at nx; exact nx
        · rw [wn, if_pos ⟨z, z2⟩, show an_W h i - 1 = an_W h i + (-1) from by omega] at nx; exact nx
      have ok1 : ∀ g', (∀ j, j < i → g' j = g j) → (an_can μ (an_S μ x g i).1 (an_c x i) (an_d x i) → cu_G μ (an_W h i) (an_S μ x g i).2 (an_x (an_S μ x g i) (an_c x i) (an_d x i)).2 (g' i)) → an_ok μ x h g' (i + 1) := by
        intro g' hg hG j hj hc
        by_cases e : j = i
        · subst e
          have := (an_S_cg (μ := μ) (x := x) j hg).1
          rw [this] at hc ⊢
          exact hG hc
        · have := (an_S_cg (μ := μ) (x := x) j (fun l hl => hg l (by omega))).1
          rw [this] at hc ⊢
          rw [hg j (by omega)]
          exact hok j (by omega) hc
      have skip : ¬ an_can μ (an_S μ x g i).1 (an_c x i) (an_d x i) → _ := fun hno => fin g m (an_N μ x g i) (by rw [an_N_succ, if_neg (fun z => hno z.1)]; omega) (ok1 g (fun _ _ => rfl) (fun z => absurd z hno)) (by rw [an_S_succ, if_neg hno]; exact hat)
      have good : an_can μ (an_S μ x g i).1 (an_c x i) (an_d x i) → ma_Ox LS (d + 4) mi_Places_swapIfGood [ma_Rf 31 0, ma_I (an_c x i), ma_I (an_d x i), ma_I (an_W h i)] m (ma_ct (ma_Ox LS (d + 4)) (LS, [], 1, 0) 65 [ma_Rf 31 0, ma_U, ma_I n, ma_U, ma_L (cu_nx (cu_nx (an_X x i))), ma_U, ma_I (an_W h i), ma_I (an_N μ x g i), ma_I ((i : Int) + 1), ma_I (an_c x i), ma_I (an_d x i)] [] 0 mt_Places_swapByChance_68 R (ma_DD (LS, [], 1, 0) Post)) := by
        intro hc
        refine sp_swapIfGood (d := d) Hc Hm pl hat cr.1 cr.2 dr.1 dr.2 (by omega) (by omega) (fun m' a1 a2 => ?_) (fun m' a1 a2 => ?_)
        · have hg : ∀ j, j < i → (fun j => if j = i then true else g j) j = g j := fun j hj => if_neg (by omega)
          have gi : (fun j => if j = i then true else g j) i = true := if_pos rfl
          have cg := an_S_cg (μ := μ) (x := x) i hg
          have F := fin (fun j => if j = i then true else g j) m' (an_N μ x g i + 1) (by rw [an_N_succ, cg.1, cg.2, if_pos ⟨hc, gi⟩]) (ok1 _ hg (fun _ => by show cu_G _ _ _ _ (if i = i then true else g i); rw [if_pos rfl]; exact a2)) (by rw [an_S_succ, cg.1, if_pos hc, if_pos gi]; exact a1)
          exact k_Places_swapByChance_65 hR ⟨fun z => absurd z (by decide), fun _ => ⟨by omega, F⟩⟩
        · have hg : ∀ j, j < i → (fun j => if j = i then false else g j) j = g j := fun j hj => if_neg (by omega)
          have gi : (fun j => if j = i then false else g j) i = false := if_pos rfl
          have gt : ¬ (fun j => if j = i then false else g j) i = true := by rw [gi]; decide
          have cg := an_S_cg (μ := μ) (x := x) i hg
          have F := fin (fun j => if j = i then false else g j) m' (an_N μ x g i) (by rw [an_N_succ, cg.1, cg.2, if_neg (fun z => gt z.2)]; omega) (ok1 _ hg (fun _ => by show cu_G _ _ _ _ (if i = i then false else g i); rw [if_pos rfl]; exact a2)) (by rw [an_S_succ, cg.1, if_pos hc, if_neg gt]; exact a1)
          exact k_Places_swapByChance_65 hR ⟨fun _ => F, fun z => absurd rfl z⟩
      refine s_Places_swapByChance_13 hR ⟨fun q => by omega, fun _ => ?_⟩
      rw [m34, m33]
      refine ⟨fun e => skip (fun z => z.1 e), fun e => ⟨cr, fun c0 => ⟨⟨c0, Int.lt_of_lt_of_le pc.2.1 (by omega)⟩, fun f0 => ⟨dr, fun d0 => good ⟨e, .inl c0, .inr f0, .inl d0⟩, fun d0 => ⟨⟨d0, Int.lt_of_lt_of_le pd.2.1 (by omega)⟩, fun f1 => good ⟨e, .inl c0, .inr f0, .inr f1⟩, fun f1 => skip (fun z => ?_)⟩⟩, fun f0 => skip (fun z => ?_)⟩, fun c0 => ⟨dr, fun d0 => ⟨⟨d0, Int.lt_of_lt_of_le pd.2.1 (by omega)⟩, fun f1 => good ⟨e, .inr d0, .inl c0, .inr f1⟩, fun f1 => skip (fun z => ?_)⟩, fun d0 => skip (fun z => ?_)⟩⟩⟩
      · rcases z.2.2.2 with y | y
        · have : (an_S μ x g i).1 (an_d x i) < 0 := y
          exact absurd d0 (Int.not_le.2 this)
        · exact f1 y
      · rcases z.2.2.1 with y | y
        · exact absurd c0 (Int.not_le.2 y)
        · exact f0 y
      · rcases z.2.2.2 with y | y
        · exact absurd d0 (Int.not_le.2 y)
        · exact f1 y
      · rcases z.2.1 with y | y
        · exact absurd y (Int.not_le.2 c0)
        · exact absurd y (Int.not_le.2 d0)
  exact lp n 0 (fun _ => false) μ _ _ _ _ _ (by omega) (fun i hi => absurd hi (Nat.not_lt_zero i)) ⟨fun _ _ _ _ _ _ _ _ => rfl, rfl, rfl, fun _ _ _ => rfl⟩

