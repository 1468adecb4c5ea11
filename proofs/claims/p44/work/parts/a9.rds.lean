/-! after as many rounds as there are nodes all tables are right -/
theorem tb_bG {μ : ma_M} {u : Int → Int} (F : cu_F μ u) {n : Nat} (hn : (n : Int) < μ 3 0 10) (a : μ 4 0 n ≠ 105) (b : μ 4 0 n ≠ 114) (h : 0 ≤ μ 28 0 n) : cu_bG μ (μ 28 0 n) n (cu_own μ n) (μ 3 0 10).toNat ∧ cu_Cv (μ 4 0) (μ 5 0) (μ 6 0) (cu_own μ n) n := by
  have hg : ¬ (μ 4 0 n = 105 ∨ μ 4 0 n = 114) := fun z => by rcases z with z | z; exact a z; exact b z
  have o := cu_own_of F.1 hn hg
  refine ⟨?_, .gate hg o.2.2.1 o.2.2.2⟩
  rcases cu_of28 F hn with ⟨j, j1, j2, j3, j4⟩ | ⟨j, j1, j2, j3, j4, _, j5⟩ | ⟨j1, j2, j3⟩ | ⟨j1, j2, j3⟩
  · have := (F.1.2.2.2.2.2.2.2.2.2.2.2.2.2.2.1 j (by omega) j1).2.2
    rw [j2] at this
    exact absurd this b
  · rw [j3]; exact j5
  · have := (F.2.2.2.1 n (by omega) j1).2.2
    rw [j3]; exact this
  · omega
/-- the values, the inputs and the registers that a chip runs with -/
def tb_E (μ : ma_M) (w : Int → Int → Int) (V g r : Int → Int) : Prop := bd_H μ ∧ fr_w μ w ∧ cv_ok μ V (μ 3 0 10) ∧ (∀ n : Int, 0 ≤ n → n < μ 3 0 10 → μ 4 0 n = 105 → g (μ 10 0 n) = V n) ∧ (∀ n : Int, 0 ≤ n → n < μ 3 0 10 → μ 4 0 n = 114 → r (μ 32 0 (μ 28 0 n)) = V n) ∧ ∃ u : Int → Int, cu_F μ u
theorem tb_gate {μ : ma_M} {w : Int → Int → Int} {V g r : Int → Int} (E : tb_E μ w V g r) : ∀ n : Nat, (n : Int) < μ 3 0 10 → μ 4 0 n ≠ 105 → μ 4 0 n ≠ 114 → 0 ≤ μ 28 0 n → ∀ T : Nat, n < T → ch_T w g r T (μ 32 0 (μ 28 0 n)) = V n := by
  obtain ⟨H, hw, hV, hg, hr, u, F⟩ := E
  intro n
  induction n using Nat.strongRecOn with
  | _ n ih =>
    intro hn a b h T hT
    obtain ⟨T', rfl⟩ : ∃ T' : Nat, T = T' + 1 := ⟨T - 1, by omega⟩
    have mm := H.1.2.1.2.2.2.1 n (by omega) hn
    have hb : μ 28 0 n < μ 21 0 7 := mm.2.2.2.2.2.2.1
    obtain ⟨bb, eb⟩ : ∃ bb : Nat, μ 28 0 n = (bb : Int) := ⟨(μ 28 0 n).toNat, by omega⟩
    have G := tb_bG F hn a b h
    rw [eb] at hb G ⊢
    have B := H.1.2.1.2.2.2.2.1 bb (by omega) hb
    show ch_next w g r (ch_T w g r T') (μ 32 0 bb) = V n
    refine (tb_blk H hw hV hb (fun k k0 k1 => ?_)).1 n (cu_own μ n) hn G.1 G.2
    have t := B.2.2.2.2.2.2.2.2.1 k k0 k1
    have lt : μ 27 bb k < n := by
      have := t.2.2.2.2 (by rw [G.1.1]; omega)
      rw [G.1.1] at this; exact this
    have tn : tm_n μ (μ 27 bb k) := ⟨t.2.1, t.2.2.1, by rcases t.2.2.2.1 with z | z; exact .inl z; exact .inr (.inr z)⟩
    rw [ch_val_bE H.1 tn]
    by_cases q1 : μ 4 0 (μ 27 bb k) = 105
    · rw [if_pos q1]; exact hg _ tn.1 tn.2.1 q1
    · rw [if_neg q1]
      by_cases q2 : μ 4 0 (μ 27 bb k) = 114
      · rw [if_pos q2]; exact hr _ tn.1 tn.2.1 q2
      · rw [if_neg q2]
        have h0 : 0 ≤ μ 28 0 (μ 27 bb k) := by
          rcases t.2.2.2.1 with z | z
          · exact absurd z q1
          · exact z
        have := ih (μ 27 bb k).toNat (by omega)
        rw [show (((μ 27 bb k).toNat : Nat) : Int) = μ 27 bb k from by omega] at this
        exact this tn.2.1 q1 q2 h0 T' (by omega)
theorem tb_seen {μ : ma_M} {w : Int → Int → Int} {V g r : Int → Int} (E : tb_E μ w V g r) {n : Int} (tn : tm_n μ n) {T : Nat} (hT : μ 3 0 10 ≤ T) : ch_val g r (ch_T w g r T) (bE μ n) = V n := by
  have K := tb_gate E
  obtain ⟨H, hw, hV, hg, hr, u, F⟩ := E
  rw [ch_val_bE H.1 tn]
  by_cases q1 : μ 4 0 n = 105
  · rw [if_pos q1]; exact hg _ tn.1 tn.2.1 q1
  · rw [if_neg q1]
    by_cases q2 : μ 4 0 n = 114
    · rw [if_pos q2]; exact hr _ tn.1 tn.2.1 q2
    · rw [if_neg q2]
      have h0 : 0 ≤ μ 28 0 n := by
        rcases tn.2.2 with z | z | z
        · exact absurd z q1
        · exact absurd z q2
        · exact z
      have n0 := tn.1
      have n1 := tn.2.1
      have := K n.toNat
      rw [show ((n.toNat : Nat) : Int) = n from by omega] at this
      exact this tn.2.1 q1 q2 h0 T (by omega)
/-- an output -/
theorem tb_out {μ : ma_M} {w : Int → Int → Int} {V g r : Int → Int} (E : tb_E μ w V g r) {o : Int} (o0 : 0 ≤ o) (o1 : o < μ 3 0 13) {T : Nat} (hT : μ 3 0 10 ≤ T) : ch_val g r (ch_T w g r T) (ch_end w (w 13 o)) = V (μ 13 0 o) := by
  have H := E.1
  have hw := E.2.1
  have oo := H.1.1.2.2.2.2.2.2.2.2.2.2.2.2.2.2.2.2.2 o o0 o1
  have O1 := H.1.1.2.2.2.2.2.2.2.1
  have e := bS_out (μ := μ) (o := o.toNat) (by omega)
  rw [show ((o.toNat : Nat) : Int) = o from by omega] at e
  rw [hw _ _ (by omega) (by omega) (by omega) (by omega), show (36 : Int) * 13 + o = 468 + o from by omega, e]
  have p := ch_end_pin H hw oo.2.1 oo.2.2 (x := 42 + o) (.inr ⟨o, o0, o1, rfl, rfl⟩)
  rw [p.2]
  exact tb_seen E p.1 hT
/-- the table before a register -/
theorem tb_reg {μ : ma_M} {w : Int → Int → Int} {V g r : Int → Int} (E : tb_E μ w V g r) {i : Int} (i0 : 0 ≤ i) (i1 : i < μ 3 0 10) (hk : μ 4 0 i = 114) {T : Nat} (hT : μ 3 0 10 ≤ T) : ch_T w g r (T + 1) (μ 32 0 (μ 28 0 i)) = V (μ 7 0 i) := by
  have K := fun n (tn : tm_n μ n) => tb_seen E tn hT
  obtain ⟨H, hw, hV, hg, hr, u, F⟩ := E
  have Hc := H.1.1
  obtain ⟨j, j0, j1, ej⟩ := Hc.2.2.2.2.2.2.2.2.2.2.2.2.2.2.2.2.1 i i0 i1 hk
  obtain ⟨p1, p2, p3⟩ := F.2.2.1 j j0 j1
  rw [ej] at p1 p2 p3
  have f := (Hc.2.2.2.2.2.2.2.2.2.2.2.2.1 i i0 i1).2.2.2.1 hk
  have mm := H.1.2.1.2.2.2.1 i i0 i1
  have hb : j < μ 21 0 7 := by have := mm.2.2.2.2.2.2.1; omega
  obtain ⟨bb, eb⟩ : ∃ bb : Nat, j = (bb : Int) := ⟨j.toNat, by omega⟩
  subst eb
  rw [p2]
  have B := H.1.2.1.2.2.2.2.1 bb (by omega) hb
  have X := tb_blk H hw hV (g := g) (r := r) (t := ch_T w g r T) hb (fun k k0 k1 => by
    have t := B.2.2.2.2.2.2.2.2.1 k k0 k1
    exact K _ ⟨t.2.1, t.2.2.1, by rcases t.2.2.2.1 with z | z; exact .inl z; exact .inr (.inr z)⟩)
  show ch_next w g r (ch_T w g r T) (μ 32 0 bb) = V (μ 7 0 i)
  rcases p3 with ⟨z1, z2, z3⟩ | ⟨_, z⟩
  · have ef : (((μ 7 0 i).toNat : Nat) : Int) = μ 7 0 i := by omega
    have o := cu_own_of Hc (k := (μ 7 0 i).toNat) (by omega) (cu_need_gate z1)
    have := X.1 (μ 7 0 i).toNat (cu_own μ (μ 7 0 i).toNat) (by omega) z3 (.gate (cu_need_gate z1) o.2.2.1 o.2.2.2)
    rw [ef] at this; exact this
  · exact X.2 (μ 7 0 i) f.2.1 (by omega) z
/-- a tick -/
theorem tb_tick {μ : ma_M} {w : Int → Int → Int} {V g r : Int → Int} (E : tb_E μ w V g r) (N1 : μ 3 0 10 ≤ 39) {i clk : Int} (i0 : 0 ≤ i) (i1 : i < μ 3 0 10) (hk : μ 4 0 i = 114) : ch_tk w r (ch_T w g r 40) clk (μ 32 0 (μ 28 0 i)) = if μ 9 0 i = clk then V (μ 7 0 i) else r (μ 32 0 (μ 28 0 i)) := by
  have R := tb_reg E i0 i1 hk (T := 39) (by omega)
  have H := E.1
  have hw := E.2.1
  have Hc := H.1.1
  have f := (Hc.2.2.2.2.2.2.2.2.2.2.2.2.1 i i0 i1).2.2.2.1 hk
  have tn : tm_n μ i := ⟨i0, i1, .inr (.inl hk)⟩
  rcases bE_of H.1 tn with ⟨a, b⟩ | ⟨a, b⟩
  · omega
  obtain ⟨bb, eb⟩ : ∃ bb : Nat, μ 28 0 i = (bb : Int) := ⟨(μ 28 0 i).toNat, by omega⟩
  rw [eb] at b R ⊢
  have e := bS_cell H b.2.1 (o := 5) (by omega) (by omega)
  have B := H.1.2.1.2.2.2.2.1 bb (by omega) b.2.1
  have w5 : w (μ 32 0 bb / 6) (6 * (μ 32 0 bb % 6) + 5) = 1 + 2 * μ 8 0 i + 4 * μ 9 0 i := by
    rw [hw _ _ (by omega) (by omega) (by omega) (by omega), show 36 * (μ 32 0 bb / 6) + (6 * (μ 32 0 bb % 6) + 5) = 6 * μ 32 0 bb + 5 from by omega, e]
    unfold bd_b
    have e23 := b.2.2.2.2.2.1 hk
    have b4 := B.2.2.2.2.2.2.2.1
    rw [if_neg (by omega), if_neg (by omega), if_pos ⟨rfl, by omega⟩, e23]
  unfold ch_tk
  rw [w5, R]
  have b8 := f.2.2.2.2.2.2.2
  by_cases q : μ 9 0 i = clk
  · rw [if_pos (by omega), if_pos q]
  · rw [if_neg (by omega), if_neg q]
