/-! the chip: tables, forty times -/
def ch_val (g r t : Int → Int) (a : Int) : Int := if 300 ≤ a ∧ a < 306 then g (a - 300) else if 200 ≤ a ∧ a < 272 then (if a % 2 = 0 then t ((a - 200) / 2) else r ((a - 200) / 2)) else 0
def ch_bits (x : Int → Int) : Nat → Int
  | 0 => 0
  | j + 1 => ma_or (ch_bits x j) (ma_shl (x j) j)
def ch_x (w : Int → Int → Int) (g r t : Int → Int) (c j : Int) : Int := ch_val g r t (ch_end w (w (c / 6) (6 * (c % 6) + 1 + j)))
def ch_next (w : Int → Int → Int) (g r t : Int → Int) (c : Int) : Int := ma_and (ma_shr (w (c / 6) (6 * (c % 6))) (ch_bits (ch_x w g r t c) 4)) 1
def ch_T (w : Int → Int → Int) (g r : Int → Int) : Nat → Int → Int
  | 0, _ => 0
  | k + 1, c => ch_next w g r (ch_T w g r k) c
theorem ch_val_cg {g r t t' : Int → Int} (h : ∀ c : Int, 0 ≤ c → c < 36 → t c = t' c) (a : Int) : ch_val g r t a = ch_val g r t' a := by
  unfold ch_val
  by_cases p : 300 ≤ a ∧ a < 306
  · rw [if_pos p, if_pos p]
  · rw [if_neg p, if_neg p]
    by_cases q : 200 ≤ a ∧ a < 272
    · rw [if_pos q, if_pos q, h _ (by omega) (by omega)]
    · rw [if_neg q, if_neg q]
theorem ch_val_01 {g r t : Int → Int} (hg : ∀ j : Int, 0 ≤ j → j < 6 → g j = 0 ∨ g j = 1) (hr : ∀ c : Int, 0 ≤ c → c < 36 → r c = 0 ∨ r c = 1) (ht : ∀ c : Int, 0 ≤ c → c < 36 → t c = 0 ∨ t c = 1) (a : Int) : ch_val g r t a = 0 ∨ ch_val g r t a = 1 := by
  unfold ch_val
  by_cases p : 300 ≤ a ∧ a < 306
  · rw [if_pos p]; exact hg _ (by omega) (by omega)
  · rw [if_neg p]
    by_cases q : 200 ≤ a ∧ a < 272
    · rw [if_pos q]
      by_cases e : a % 2 = 0
      · rw [if_pos e]; exact ht _ (by omega) (by omega)
      · rw [if_neg e]; exact hr _ (by omega) (by omega)
    · rw [if_neg q]; exact .inl rfl
theorem ch_and1 (x : Int) : ma_and x 1 = 0 ∨ ma_and x 1 = 1 := by
  have h : (Int32.ofInt x &&& Int32.ofInt 1).toBitVec.toNat = (Int32.ofInt x).toBitVec.toNat % 2 := by
    rw [Int32.toBitVec_and, BitVec.toNat_and, show (Int32.ofInt 1).toBitVec.toNat = 1 from by decide, Nat.and_one_is_mod]
  have h2 : ma_and x 1 = (((Int32.ofInt x).toBitVec.toNat % 2 : Nat) : Int) := by
    show (Int32.ofInt x &&& Int32.ofInt 1).toBitVec.toInt = _
    rw [bt_toInt _ (by omega), h]
  omega
theorem ch_next_cg {w : Int → Int → Int} {g r t t' : Int → Int} (h : ∀ c : Int, 0 ≤ c → c < 36 → t c = t' c) (c : Int) : ch_next w g r t c = ch_next w g r t' c := by
  unfold ch_next
  have e : ch_x w g r t c = ch_x w g r t' c := by funext j; exact ch_val_cg h _
  rw [e]
theorem ch_T_01 {w : Int → Int → Int} {g r : Int → Int} (k : Nat) (c : Int) : ch_T w g r k c = 0 ∨ ch_T w g r k c = 1 := by
  cases k with
  | zero => exact .inl rfl
  | succ k => exact ch_and1 _
theorem ch_stay {w : Int → Int → Int} {g r : Int → Int} {k : Nat} (h : ∀ c : Int, 0 ≤ c → c < 36 → ch_T w g r (k + 1) c = ch_T w g r k c) : ∀ n : Nat, ∀ c : Int, 0 ≤ c → c < 36 → ch_T w g r (k + n) c = ch_T w g r k c := by
  intro n
  induction n with
  | zero => intro c _ _; rfl
  | succ n ih =>
    intro c c0 c1
    show ch_next w g r (ch_T w g r (k + n)) c = _
    rw [ch_next_cg ih c]; exact h c c0 c1
theorem ma_cpy_64 {μ : ma_M} {i : Int} (i0 : 0 ≤ i) (i1 : i < 36) : ma_cpy μ 63 0 0 64 0 0 36 64 0 i = μ 63 0 i := by
  unfold ma_cpy
  rw [if_pos ⟨rfl, rfl, i0, by omega⟩, show 0 + (i - 0) = i from by omega]
/-- the class: where the codes end -/
theorem sp_findEnds {LS d : Nat} {Post : ma_R → ma_M → Prop} {μ : ma_M}
    (h : ∀ m : ma_M, (∀ c : Nat, c ≠ 65 → m c = μ c) → (∀ c j : Int, 0 ≤ c → c < 36 → 0 ≤ j → j < 4 → m 65 0 (4 * c + j) = ch_end (μ 60) (μ 60 (c / 6) (6 * (c % 6) + 1 + j))) → Post (.inl none) m) :
    ma_Ox LS (d + 5) mi_Chip_findEnds [ma_Rf 57 0] μ Post := by
  refine gi_Chip_findEnds (fun R hR => s_Chip_findEnds_0 (d := d) hR ?_)
  refine ma_cnt (σ := ma_M) (N := 36) (P := fun i m => ∀ u : ma_V, R 2 [ma_Rf 57 0, ma_I i, u] [] 0 m) (I := fun n m => (∀ c : Nat, c ≠ 65 → m c = μ c) ∧ ∀ c j : Int, 0 ≤ c → c < n → 0 ≤ j → j < 4 → m 65 0 (4 * c + j) = ch_end (μ 60) (μ 60 (c / 6) (6 * (c % 6) + 1 + j))) ?_ ?_ 0 μ (by omega) (by omega) ⟨fun _ _ => rfl, fun c j a b => by omega⟩ _
  · intro c m c0 c1 ⟨a1, a2⟩ ih u
    refine s_Chip_findEnds_2 hR ⟨fun q => by omega, fun _ => ?_⟩
    refine ma_cnt (σ := ma_M) (N := 4) (P := fun j m' => R 10 [ma_Rf 57 0, ma_I c, ma_I j] [] 0 m') (I := fun n m' => (∀ k : Nat, k ≠ 65 → m' k = μ k) ∧ (∀ c' j : Int, 0 ≤ c' → c' < c → 0 ≤ j → j < 4 → m' 65 0 (4 * c' + j) = ch_end (μ 60) (μ 60 (c' / 6) (6 * (c' % 6) + 1 + j))) ∧ ∀ j : Int, 0 ≤ j → j < n → m' 65 0 (4 * c + j) = ch_end (μ 60) (μ 60 (c / 6) (6 * (c % 6) + 1 + j))) ?_ ?_ 0 m (by omega) (by omega) ⟨a1, a2, fun j a b => by omega⟩
    · intro j m' j0 j1 ⟨b1, b2, b3⟩ ih2
      refine s_Chip_findEnds_10 hR ⟨fun q => by omega, fun _ => ?_⟩
      rw [td_nn c0, tm_nn c0]
      refine ⟨by omega, by omega, by omega, by omega, by omega, by omega, by omega, by omega, sp_endOf (k_Chip_findEnds_39 hR ⟨by omega, by omega, ih2 _ ⟨fun k hk => by rw [ma_up_ck hk]; exact b1 k hk, fun c' j' c0' c1' j0' j1' => ?_, fun j' j0' j1' => ?_⟩⟩)⟩
      · rw [ma_up_ne (by omega)]; exact b2 c' j' c0' c1' j0' j1'
      · by_cases e : j' = j
        · rw [e, ma_up_eq, b1 60 (by decide), show 6 * (c % 6) + (1 + j) = 6 * (c % 6) + 1 + j from by omega]
        · rw [ma_up_ne (by omega)]; exact b3 j' j0' (by omega)
    · intro m' ⟨b1, b2, b3⟩
      refine s_Chip_findEnds_10 hR ⟨fun _ => ⟨by omega, ih m' ⟨b1, fun c' j c0' c1' j0 j1 => ?_⟩ _⟩, fun q => by omega⟩
      by_cases e : c' = c
      · rw [e]; exact b3 j j0 j1
      · exact b2 c' j c0' (by omega) j0 j1
  · intro m ⟨a1, a2⟩ u
    exact s_Chip_findEnds_2 hR ⟨fun _ => h m a1 a2, fun q => by omega⟩
/-- the class: the tables once more -/
theorem sp_renew {LS d : Nat} {Post : ma_R → ma_M → Prop} {μ : ma_M} {t : Int → Int} (ht : ∀ c : Int, 0 ≤ c → c < 36 → μ 63 0 c = t c) (he : ∀ c j : Int, 0 ≤ c → c < 36 → 0 ≤ j → j < 4 → μ 65 0 (4 * c + j) = ch_end (μ 60) (μ 60 (c / 6) (6 * (c % 6) + 1 + j)))
    (h : ∀ (v : Int) (m : ma_M), (∀ c : Nat, c ≠ 63 → c ≠ 64 → m c = μ c) → (∀ c : Int, 0 ≤ c → c < 36 → m 63 0 c = ch_next (μ 60) (μ 61 0) (μ 62 0) t c) → (v = 0 → ∀ c : Int, 0 ≤ c → c < 36 → ch_next (μ 60) (μ 61 0) (μ 62 0) t c = t c) → Post (.inl (some (ma_I v))) m) :
    ma_Ox LS (d + 2) mi_Chip_renewTables [ma_Rf 57 0] μ Post := by
  refine gi_Chip_renewTables (fun R hR => s_Chip_renewTables_0 (d := d) hR ?_)
  have c1 : ∀ c : Nat, c ≠ 64 → (ma_cpy μ 63 0 0 64 0 0 36) c = μ c := fun c hc => ma_cpy_ck hc
  have c2 : ∀ c : Int, 0 ≤ c → c < 36 → (ma_cpy μ 63 0 0 64 0 0 36) 64 0 c = t c := fun c c0 c1 => by rw [ma_cpy_64 c0 c1]; exact ht c c0 c1
  generalize ma_cpy μ 63 0 0 64 0 0 36 = μ1 at c1 c2 ⊢
  refine ma_cnt (σ := Int × ma_M) (N := 36) (P := fun i s => ∀ u v : ma_V, R 19 [ma_Rf 57 0, ma_I s.1, ma_I i, u, v] [] 0 s.2) (I := fun n s => (∀ c : Nat, c ≠ 63 → s.2 c = μ1 c) ∧ (∀ c : Int, 0 ≤ c → c < n → s.2 63 0 c = ch_next (μ 60) (μ 61 0) (μ 62 0) t c) ∧ (s.1 = 0 ∨ s.1 = 1) ∧ (s.1 = 0 → ∀ c : Int, 0 ≤ c → c < n → ch_next (μ 60) (μ 61 0) (μ 62 0) t c = t c)) ?_ ?_ 0 (0, μ1) (by omega) (by omega) ⟨fun _ _ => rfl, fun c a b => by omega, .inl rfl, fun _ c a b => by omega⟩ _ _
  · intro c s x0 x1 ⟨a1, a2, a3, a4⟩ ih u v
    obtain ⟨f, m⟩ := s
    show R 19 [ma_Rf 57 0, ma_I f, ma_I c, u, v] [] 0 m
    dsimp only at a1 a2 a3 a4
    have em : ∀ k : Nat, k ≠ 63 → k ≠ 64 → m k = μ k := fun k k1 k2 => (a1 k k1).trans (c1 k k2)
    have e64 : ∀ i : Int, 0 ≤ i → i < 36 → m 64 0 i = t i := fun i i0 i1 => by rw [a1 64 (by decide)]; exact c2 i i0 i1
    refine s_Chip_renewTables_19 hR ⟨fun q => by omega, fun _ => ?_⟩
    have lp : ∀ (k j : Nat), (j : Int) + k = 4 → R 30 [ma_Rf 57 0, ma_I f, ma_I c, ma_I (ch_bits (ch_x (μ 60) (μ 61 0) (μ 62 0) t c) j), ma_I j] [] 0 m := by
      intro k
      induction k with
      | zero =>
        intro j hj
        have ej : j = 4 := by omega
        refine s_Chip_renewTables_30 hR ⟨fun _ => ?_, fun q => by omega⟩
        rw [td_nn x0, tm_nn x0, ma_up_eq, em 60 (by decide) (by decide), ej, show 6 * (c % 6) + 0 = 6 * (c % 6) from by omega]
        have key : ∀ (f' : Int), (f' = 0 ∨ f' = 1) → (f' = 0 → f = 0 ∧ ch_next (μ 60) (μ 61 0) (μ 62 0) t c = t c) → R 19 [ma_Rf 57 0, ma_I f', ma_I (c + 1), ma_U, ma_U] [] 0 (ma_up m 63 0 c (ch_next (μ 60) (μ 61 0) (μ 62 0) t c)) := by
          intro f' hf hf2
          refine ih (f', _) ⟨fun k hk => by show (ma_up m 63 0 c _) k = _; rw [ma_up_ck hk]; exact a1 k hk, fun c' c0' c1' => ?_, hf, fun z c' c0' c1' => ?_⟩ _ _
          · show (ma_up m 63 0 c _) 63 0 c' = _
            by_cases e : c' = c
            · rw [e, ma_up_eq]
            · rw [ma_up_ne (by omega)]; exact a2 c' c0' (by omega)
          · by_cases e : c' = c
            · rw [e]; exact (hf2 z).2
            · exact a4 (hf2 z).1 c' c0' (by omega)
        refine ⟨by omega, by omega, by omega, by omega, by omega, by omega, fun e => ⟨by omega, key f a3 (fun z => ⟨z, ?_⟩)⟩, fun e => ⟨by omega, key 1 (.inr rfl) (fun z => by omega)⟩⟩
        rw [e64 c x0 x1] at e; exact e
      | succ k ih2 =>
        intro j hj
        have nx : ∀ x : Int, x = ch_x (μ 60) (μ 61 0) (μ 62 0) t c j → R 30 [ma_Rf 57 0, ma_I f, ma_I c, ma_I (ma_or (ch_bits (ch_x (μ 60) (μ 61 0) (μ 62 0) t c) j) (ma_shl x j)), ma_I ((j : Int) + 1)] [] 0 m := by
          intro x hx
          rw [hx]
          exact ih2 (j + 1) (by omega)
        refine s_Chip_renewTables_30 hR ⟨fun q => by omega, fun _ => ⟨by omega, by omega, by omega, ?_⟩⟩
        rw [em 65 (by decide) (by decide), em 62 (by decide) (by decide), em 61 (by decide) (by decide), he c j x0 x1 (by omega) (by omega)]
        unfold ch_x ch_val at nx
        generalize ch_end (μ 60) (μ 60 (c / 6) (6 * (c % 6) + 1 + (j : Int))) = a at nx ⊢
        have wd : (200 ≤ a ∧ a < 272) → ((¬ (Int.tmod a 2) = 0 → (0 ≤ (Int.tdiv (a - 200) 2) ∧ (Int.tdiv (a - 200) 2) < 36) ∧ (-2147483648 ≤ ((j : Int) + 1) ∧ ((j : Int) + 1) < 2147483648) ∧ R 30 [ma_Rf 57 0, ma_I f, ma_I c, ma_I (ma_or (ch_bits (ch_x (μ 60) (μ 61 0) (μ 62 0) t c) j) (ma_shl (μ 62 0 (Int.tdiv (a - 200) 2)) j)), ma_I ((j : Int) + 1)] [] 0 m) ∧ ((Int.tmod a 2) = 0 → (0 ≤ (Int.tdiv (a - 200) 2) ∧ (Int.tdiv (a - 200) 2) < 36) ∧ (-2147483648 ≤ ((j : Int) + 1) ∧ ((j : Int) + 1) < 2147483648) ∧ R 30 [ma_Rf 57 0, ma_I f, ma_I c, ma_I (ma_or (ch_bits (ch_x (μ 60) (μ 61 0) (μ 62 0) t c) j) (ma_shl (m 64 0 (Int.tdiv (a - 200) 2)) j)), ma_I ((j : Int) + 1)] [] 0 m)) := by
          intro ha
          rw [td_nn (a := a - 200) (by omega), tm_nn (a := a) (by omega)]
          refine ⟨fun p => ⟨by omega, by omega, nx _ ?_⟩, fun p => ⟨by omega, by omega, nx _ ?_⟩⟩
          · rw [if_neg (by omega), if_pos ha, if_neg p]
          · rw [if_neg (by omega), if_pos ha, if_pos p]; exact e64 _ (by omega) (by omega)
        refine ⟨fun a1 => ⟨fun a2 => ⟨by omega, nx _ ?_⟩, fun a2 => ⟨fun a3 => ⟨by omega, by rw [td_nn (a := a - 200) (by omega)]; omega, wd ⟨a2, a3⟩⟩, fun a3 => ⟨by omega, nx _ ?_⟩⟩⟩, fun a1 => ⟨fun a2 => ⟨fun a3 => by omega, fun a3 => ⟨fun a4 => by omega, fun a4 => ⟨by omega, nx _ ?_⟩⟩⟩, fun a2 => ⟨by omega, by omega, by omega, nx _ ?_⟩⟩⟩
        · rw [if_neg (by omega), if_neg (by omega)]
        · rw [if_neg (by omega), if_neg (by omega)]
        · rw [if_neg (by omega), if_neg (by omega)]
        · rw [if_pos (by omega)]
    exact lp 4 0 (by omega)
  · intro s ⟨a1, a2, a3, a4⟩ u v
    refine s_Chip_renewTables_19 hR ⟨fun _ => ⟨a3, h s.1 s.2 (fun k k1 k2 => (a1 k k1).trans (c1 k k2)) a2 a4⟩, fun q => by omega⟩
theorem sp_findTables {LS d : Nat} {Post : ma_R → ma_M → Prop} {μ : ma_M}
    (h : ∀ m : ma_M, (∀ c : Nat, c ≠ 63 → c ≠ 64 → c ≠ 65 → m c = μ c) → (∀ c : Int, 0 ≤ c → c < 36 → m 63 0 c = ch_T (μ 60) (μ 61 0) (μ 62 0) 40 c) → Post (.inl none) m) :
    ma_Ox LS (d + 6) mi_Chip_findTables [ma_Rf 57 0] μ Post := by
  refine gi_Chip_findTables (fun R hR => s_Chip_findTables_0 (d := d) hR ?_)
  refine sp_findEnds (d := d) (fun m1 a1 a2 => k_Chip_findTables_1 hR ?_)
  refine sp_fillI (len := 36) rfl rfl (by omega) (fun m2 b1 b2 b3 => k_Chip_findTables_9 hR ?_)
  have lp : ∀ (k j : Nat) (f : Int) (m : ma_M), j + k = 40 → (∀ c : Nat, c ≠ 63 → c ≠ 64 → m c = m2 c) → (∀ c : Int, 0 ≤ c → c < 36 → m 63 0 c = ch_T (μ 60) (μ 61 0) (μ 62 0) j c) → (f = 0 → ∀ c : Int, 0 ≤ c → c < 36 → ch_T (μ 60) (μ 61 0) (μ 62 0) 40 c = ch_T (μ 60) (μ 61 0) (μ 62 0) j c) → R 16 [ma_Rf 57 0, ma_I f, ma_I j] [] 0 m := by
    intro k
    induction k with
    | zero =>
      intro j f m hj x1 x2 x3
      have fin := h m (fun c k1 k2 k3 => by rw [x1 c k1 k2, b1 c k1]; exact a1 c k3) (fun c c0 c1 => by rw [x2 c c0 c1, show j = 40 from by omega])
      exact s_Chip_findTables_16 hR ⟨fun _ => fin, fun q => by omega⟩
    | succ k ih =>
      intro j f m hj x1 x2 x3
      refine s_Chip_findTables_16 hR ⟨fun q => by omega, fun _ => ⟨fun z => h m (fun c k1 k2 k3 => by rw [x1 c k1 k2, b1 c k1]; exact a1 c k3) (fun c c0 c1 => by rw [x3 z c c0 c1]; exact x2 c c0 c1), fun z => ?_⟩⟩
      have em : ∀ c : Nat, c ≠ 63 → c ≠ 64 → c ≠ 65 → m c = μ c := fun c k1 k2 k3 => by rw [x1 c k1 k2, b1 c k1]; exact a1 c k3
      have e60 : m 60 = μ 60 := em 60 (by decide) (by decide) (by decide)
      have e61 : m 61 = μ 61 := em 61 (by decide) (by decide) (by decide)
      have e62 : m 62 = μ 62 := em 62 (by decide) (by decide) (by decide)
      refine sp_renew (d := d + 3) (t := ch_T (μ 60) (μ 61 0) (μ 62 0) j) x2 (fun c i c0 c1 i0 i1 => by rw [x1 65 (by decide) (by decide), b1 65 (by decide), e60]; exact a2 c i c0 c1 i0 i1) (fun v m' y1 y2 y3 => k_Chip_findTables_27 hR ⟨by omega, ?_⟩)
      rw [e60, e61, e62] at y2 y3
      refine ih (j + 1) v m' (by omega) (fun c k1 k2 => by rw [y1 c k1 k2]; exact x1 c k1 k2) y2 (fun z2 c c0 c1 => ?_)
      have st := ch_stay (w := μ 60) (g := μ 61 0) (r := μ 62 0) (k := j) (fun c c0 c1 => y3 z2 c c0 c1)
      rw [show 40 = j + (40 - j) from by omega, st (40 - j) c c0 c1, st 1 c c0 c1]
  exact lp 40 0 1 m2 (by omega) (fun _ _ _ => rfl) (fun c c0 c1 => b3 c c0 c1) (fun q => by omega)

