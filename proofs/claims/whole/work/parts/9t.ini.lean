/-! the start: what the constructors leave -/
def co_s0 : co_S := (0, 0, [], List.replicate 168 0, List.replicate 7 0)
def co_l0 : Option co_Z := co_go (co_run 4) co_pl 100000 co_pl (ma_entry 9 [ma_Rf 0 0]) [] co_s0
def co_F : co_S := (325, 20788, [(69, 48), (69, 47), (69, 46), (69, 45), (69, 44), (69, 43), (69, 42), (69, 41), (69, 40), (69, 39), (69, 38), (69, 37), (69, 36), (69, 35), (69, 34), (69, 33), (69, 32), (69, 31), (69, 30), (69, 24), (69, 23), (69, 22), (69, 21), (69, 20), (69, 19), (69, 18), (69, 17), (69, 16), (69, 15), (69, 14), (69, 13), (69, 12), (69, 7), (69, 6), (69, 5), (69, 4), (69, 3), (69, 2), (69, 1), (69, 0), (2, 9), (66, 2), (66, 1), (66, 0), (2, 8), (57, 6), (57, 5), (57, 4), (57, 2), (57, 1), (57, 0), (58, 0), (2, 7), (56, 4), (56, 3), (56, 2), (56, 1), (56, 0), (2, 6), (53, 0), (2, 5), (51, 4), (51, 3), (51, 2), (51, 1), (51, 0), (2, 4), (40, 11), (40, 8), (40, 7), (40, 6), (40, 5), (40, 4), (40, 3), (40, 2), (40, 1), (40, 0), (2, 3), (31, 9), (31, 8), (31, 7), (31, 6), (31, 5), (31, 4), (31, 3), (31, 2), (31, 1), (31, 0), (2, 2), (21, 9), (21, 8), (21, 6), (21, 5), (21, 4), (21, 3), (21, 2), (21, 1), (21, 0), (2, 1), (14, 4), (14, 3), (14, 2), (14, 1), (14, 0), (2, 0), (3, 9), (3, 8), (3, 7), (3, 6), (3, 5), (3, 4), (3, 3), (3, 2), (3, 1), (3, 0)], [216, 217, 218, 219, 220, 221, 222, 223, 224, 225, 226, 227, 228, 229, 252, 253, 254, 255, 256, 257, 258, 259, 260, 261, 262, 263, 264, 265, 288, 289, 290, 291, 292, 293, 294, 295, 296, 297, 298, 299, 300, 301, 324, 325, 326, 327, 328, 329, 330, 331, 332, 333, 334, 335, 336, 337, 360, 361, 362, 363, 364, 365, 366, 367, 368, 369, 370, 371, 372, 373, 396, 397, 398, 399, 400, 401, 402, 403, 404, 405, 406, 407, 408, 409, 230, 231, 232, 233, 234, 235, 236, 237, 238, 239, 240, 241, 266, 267, 268, 269, 270, 271, 272, 273, 274, 275, 276, 277, 302, 303, 304, 305, 306, 307, 308, 309, 310, 311, 312, 313, 338, 339, 340, 341, 342, 343, 344, 345, 346, 347, 348, 349, 374, 375, 376, 377, 378, 379, 380, 381, 382, 383, 384, 385, 410, 411, 412, 413, 414, 415, 416, 417, 418, 419, 420, 421, 432, 433, 434, 435, 436, 437, 438, 439, 440, 441, 442, 443], [26, 26, 26, 26, 26, 26, 12])
def co_lF : List ma_V := [ma_Rf 0 0, ma_Rf 2 0, ma_Rf 69 0, ma_Rf 111 0, ma_Rf 112 0, ma_I 0, ma_U, ma_U, ma_U]
def co_eqV : ma_V → ma_V → Bool
  | .inl a, .inl b => decide (a = b)
  | .inr (.inr (.inl a)), .inr (.inr (.inl b)) => decide (a.1 = b.1) && decide (a.2 = b.2)
  | .inr (.inr (.inr (.inr (.inr (.inr _))))), .inr (.inr (.inr (.inr (.inr (.inr _))))) => true
  | _, _ => false
theorem co_eqV_e : ∀ a b : ma_V, co_eqV a b = true → a = b := by
  intro a b h
  rcases a with a | a | a | a | a | a | a <;> rcases b with b | b | b | b | b | b | b <;> first | (cases h; done) | skip
  · exact congrArg _ (of_decide_eq_true h)
  · have h : (decide (a.1 = b.1) && decide (a.2 = b.2)) = true := h
    rw [Bool.and_eq_true] at h
    have : a = b := Prod.ext (of_decide_eq_true h.1) (of_decide_eq_true h.2)
    rw [this]
  · rfl
def co_eqL : List ma_V → List ma_V → Bool
  | [], [] => true
  | a :: as, b :: bs => co_eqV a b && co_eqL as bs
  | _, _ => false
theorem co_eqL_e : ∀ as bs : List ma_V, co_eqL as bs = true → as = bs
  | [], [], _ => rfl
  | a :: as, b :: bs, h => by
    have h : (co_eqV a b && co_eqL as bs) = true := h
    rw [Bool.and_eq_true] at h
    rw [co_eqV_e _ _ h.1, co_eqL_e _ _ h.2]
  | [], _ :: _, h => by cases h
  | _ :: _, [], h => by cases h
def co_eqS (a b : co_S) : Bool := decide (a.1 = b.1) && (decide (a.2.1 = b.2.1) && (decide (a.2.2.1 = b.2.2.1) && (decide (a.2.2.2.1 = b.2.2.2.1) && decide (a.2.2.2.2 = b.2.2.2.2))))
def co_eqZ : Option co_Z → Bool
  | some (.inl (ls, st, σ)) => co_eqL ls co_lF && (co_eqL st [] && co_eqS σ co_F)
  | _ => false
theorem co_ev0 : co_eqZ co_l0 = true := by decide +kernel
theorem co_ev : co_l0 = some (.inl (co_lF, [], co_F)) := by
  have h := co_ev0
  generalize co_l0 = z at h
  match z, h with
  | some (.inl (ls, st, σ)), h =>
    have h : (co_eqL ls co_lF && (co_eqL st [] && co_eqS σ co_F)) = true := h
    unfold co_eqS at h
    simp only [Bool.and_eq_true, decide_eq_true_eq] at h
    obtain ⟨h1, h2, h3, h4, h5, h6, h7⟩ := h
    rw [co_eqL_e _ _ h1, co_eqL_e _ _ h2]
    exact congrArg (fun s => some (Sum.inl (co_lF, [], s))) (Prod.ext h3 (Prod.ext h4 (Prod.ext h5 (Prod.ext h6 h7))))
  | some (.inr _), h => cases h
  | none, h => cases h
theorem co_chk_law : co_chk code 12 false 28 0 co_pl = true := by decide +kernel
theorem st_P00 : (List.range 113).all (fun k => (List.range 60).all (fun f => !(Nat.ble 10 (ma_ck k).1 && (Nat.beq (ma_fk ((ma_ck k).1 - 10) f) 3 || Nat.beq (ma_fk ((ma_ck k).1 - 10) f) 4)) || decide ((k, f) ∈ co_F.2.2.1))) = true := by decide +kernel
theorem st_P0 (k : Nat) (hk : k < 113) (f : Nat) (hf : f < 60) (h1 : 10 ≤ (ma_ck k).1) (h2 : ma_fk ((ma_ck k).1 - 10) f = 3 ∨ ma_fk ((ma_ck k).1 - 10) f = 4) : (k, f) ∈ co_F.2.2.1 := by
  have h := List.all_eq_true.mp (List.all_eq_true.mp st_P00 k (List.mem_range.mpr hk)) f (List.mem_range.mpr hf)
  rw [Nat.ble_eq_true_of_le h1] at h
  rcases h2 with z | z <;> (rw [z] at h; exact of_decide_eq_true h)
theorem st_4 : ∀ k, k < 113 → ∀ f, f < 60 → (10 ≤ (ma_ck k).1 ∧ ma_fk ((ma_ck k).1 - 10) f = 4 → k = 69 ∧ (f = 46 ∨ f = 47)) := by decide +kernel
theorem st_69 : (ma_ck 69).1 = 21 ∧ ma_fk 11 46 = 4 ∧ ma_fk 11 47 = 4 := by decide +kernel
theorem st_in : ∀ k, k < 113 → 2 ≤ k → co_off k + (ma_ck k).2.2 ≤ 325 := by decide +kernel
theorem st_lt : ∀ k, k < 112 → 2 ≤ k → co_off k + (ma_ck k).2.2 ≤ co_off (k + 1) := by decide +kernel
theorem st_W : ∀ v ∈ co_F.2.2.2.1 ++ co_F.2.2.2.2, -2147483648 ≤ v ∧ v < 2147483648 := by decide +kernel
theorem st_wire : ∀ n : Nat, n < 84 → co_mem co_F 109 (2 * (n : Int)) = 36 * (6 + rl_lo (n : Int) / 7) + rl_ix (n : Int) ∧ co_mem co_F 109 (2 * (n : Int) + 1) = 36 * (6 + rl_lo (n : Int) / 7) + rl_ix (n : Int) + 1 := by decide +kernel
theorem st_k8 : ∀ k, k < 113 → 2 ≤ k → (ma_ck k).1 ≤ 6 ∨ 10 ≤ (ma_ck k).1 ∧ (ma_ck k).1 < 22 := by decide +kernel
def st_pat : List Int := [43690, 52428, 61680, 65280]
def st_mu (xs : Nat → Int32) : ma_M := fun k _ i => if k = 0 then (xs i.toNat).toInt else if k = 1 then st_pat.getD i.toNat 0 else if k = 69 then (if i = 46 then 107 else if i = 47 then 108 else 0) else co_mem co_F k i
theorem st_mu_Z (xs : Nat → Int32) (k : Nat) (r i : Int) (h0 : k ≠ 0) (h1 : k ≠ 1) (h2 : k ≠ 69) : st_mu xs k r i = co_mem co_F k i := by
  unfold st_mu
  rw [if_neg h0, if_neg h1, if_neg h2]
theorem st_mem0 (k : Nat) (i : Int) (h1 : k ≠ 109) (h2 : k ≠ 110) : co_mem co_F k i = 0 := by
  unfold co_mem
  rw [if_neg h1, if_neg h2]
theorem st_memr (k : Nat) (i : Int) : -2147483648 ≤ co_mem co_F k i ∧ co_mem co_F k i < 2147483648 := by
  have key : ∀ l : List Int, (∀ v ∈ l, -2147483648 ≤ v ∧ v < 2147483648) → -2147483648 ≤ l.getD i.toNat 0 ∧ l.getD i.toNat 0 < 2147483648 := by
    intro l hl
    rw [List.getD_eq_getElem?_getD]
    cases hq : l[i.toNat]? with
    | none => exact ⟨by decide, by decide⟩
    | some x => exact hl x (List.mem_of_getElem? hq)
  unfold co_mem
  by_cases e1 : k = 109
  · rw [if_pos e1]; exact key _ (fun v hv => st_W v (List.mem_append_left _ hv))
  · rw [if_neg e1]
    by_cases e2 : k = 110
    · rw [if_pos e2]; exact key _ (fun v hv => st_W v (List.mem_append_right _ hv))
    · rw [if_neg e2]; exact ⟨by decide, by decide⟩
theorem st_can (k t : Nat) (i : Int) (ht : (ma_ck k).1 = t) (ht4 : t ≤ 4) : ma_can t (co_mem co_F k i) := by
  unfold ma_can
  by_cases h1 : t = 1
  · rw [if_pos h1]
    have := st_memr k i
    omega
  · rw [if_neg h1]
    by_cases h4 : t = 4
    · rw [if_pos h4]
      have e : co_mem co_F k i = 0 := st_mem0 k i (fun z => by rw [z] at ht; have : (ma_ck 109).1 = 0 := rfl; omega) (fun z => by rw [z] at ht; have : (ma_ck 110).1 = 0 := rfl; omega)
      rw [e]; exact ⟨by decide, by decide⟩
    · rw [if_neg h4]; exact st_memr k i
/-- the law's memory where its loop begins -/
theorem st_HR {G : ma_G} {U : State} {H : Heap} {xs : Nat → Int32} (K : co_KX G U) (hH : co_H G co_F H)
    (h8 : ∃ cell : Cell, H[G.ad 0 0]? = some cell ∧ U.isArrayOf cell .int ∧ cell.vm ≠ .unknown ∧ cell.slots.size = G.LS ∧ ∀ j : Nat, j < G.LS → cell.slots[j]? = some (.int (xs j)))
    (h7 : ∃ cell : Cell, H[G.ad 1 0]? = some cell ∧ U.isArrayOf cell .int ∧ cell.vm ≠ .unknown ∧ cell.slots.size = 4 ∧ ∀ j : Nat, j < 4 → cell.slots[j]? = some (.int (Int32.ofInt (st_pat.getD j 0)))) : ma_HR G U (st_mu xs) H := by
  intro k r hv
  have hk : k < 113 := by have := hv.1; rw [co_len] at this; exact this
  by_cases h2 : 2 ≤ k
  · have hin := st_in k hk h2
    have hiv : co_in co_F k r := ⟨hv, h2, by show _ < 325; have := hv.2.2; have := hv.2.1; omega⟩
    obtain ⟨c1, c2, c3⟩ := hH.2 k r hiv
    have h69 : (ma_ck k).1 ≤ 6 → k ≠ 69 := fun z e => by rw [e, st_69.1] at z; omega
    refine ⟨fun z => ⟨?_, fun i hi0 hi1 => ?_⟩, c2, fun z => ?_, fun ci z => ?_⟩
    · rw [c1 z]
      congr 2
      funext j
      rw [st_mu_Z xs k r j (by omega) (by omega) (h69 (by omega))]
    · rw [st_mu_Z xs k r i (by omega) (by omega) (h69 (by omega))]
      exact st_can k _ i rfl z
    · rcases st_k8 k hk h2 with y | y <;> omega
    · have hci : ci < 12 := by rcases st_k8 k hk h2 with y | y <;> omega
      have e10 : (ma_ck k).1 - 10 = ci := by omega
      have hf60 : ∀ f, f < ma_N ci → f < 60 := fun f hf => Nat.lt_of_lt_of_le hf (co_N60 ci hci)
      have hnm : k ≠ 109 ∧ k ≠ 110 := ⟨fun y => by rw [y] at z; have : (ma_ck 109).1 = 0 := rfl; omega, fun y => by rw [y] at z; have : (ma_ck 110).1 = 0 := rfl; omega⟩
      have hmu : ∀ f : Nat, f < ma_N ci → ma_fk ci f ≠ 4 → st_mu xs k r f = 0 := by
        intro f hf hne
        by_cases hk69 : k = 69
        · have hc11 : ci = 11 := by rw [hk69, st_69.1] at z; omega
          have g1 : f ≠ 46 := fun y => hne (by rw [hc11, y]; exact st_69.2.1)
          have g2 : f ≠ 47 := fun y => hne (by rw [hc11, y]; exact st_69.2.2)
          unfold st_mu
          rw [if_neg (by omega), if_neg (by omega), if_pos hk69, if_neg (by omega), if_neg (by omega)]
        · rw [st_mu_Z xs k r f (by omega) (by omega) hk69, st_mem0 k _ hnm.1 hnm.2]
      have h4 : ∀ f, f < ma_N ci → ma_fk ci f = 4 → k = 69 ∧ (st_mu xs k r f).toNat = co_dyn f ∧ (co_dyn f = 107 ∨ co_dyn f = 108) := by
        intro f hf h4
        obtain ⟨g1, g2⟩ := st_4 k hk f (hf60 f hf) ⟨by omega, by rw [e10]; exact h4⟩
        subst g1
        rcases g2 with g2 | g2 <;> subst g2
        · exact ⟨rfl, rfl, Or.inl rfl⟩
        · exact ⟨rfl, rfl, Or.inr rfl⟩
      refine ⟨(c3 ci z).to (fun f hf => ?_), fun f hf => ?_⟩
      · unfold co_fv ma_fv
        by_cases f1 : ma_fk ci f = 1
        · rw [if_pos f1, if_pos f1, hmu f hf (by omega)]; rfl
        · rw [if_neg f1, if_neg f1]
          by_cases f3 : ma_fk ci f = 3
          · rw [if_pos f3, if_pos f3, if_pos (st_P0 k hk f (hf60 f hf) (by omega) (Or.inl (by rw [e10]; exact f3)))]
          · rw [if_neg f3, if_neg f3]
            by_cases f4 : ma_fk ci f = 4
            · rw [if_pos f4, if_pos f4, if_pos (st_P0 k hk f (hf60 f hf) (by omega) (Or.inr (by rw [e10]; exact f4))), (h4 f hf f4).2.1]
            · rw [if_neg f4, if_neg f4, hmu f hf f4]; rfl
      · unfold ma_fcan
        by_cases f1 : ma_fk ci f = 1
        · rw [if_pos f1, hmu f hf (by omega)]; exact ⟨by decide, by decide⟩
        · rw [if_neg f1]
          by_cases f3 : ma_fk ci f = 3
          · rw [if_pos f3]
            obtain ⟨r1, r2⟩ := co_rf_val ci hci k hk z f hf f3
            exact ⟨by rw [co_len]; exact r1, Int.le_refl _, by exact_mod_cast r2⟩
          · rw [if_neg f3]
            by_cases f4 : ma_fk ci f = 4
            · rw [if_pos f4, (h4 f hf f4).2.1]
              rcases (h4 f hf f4).2.2 with y | y <;> rw [y]
              · exact ⟨by decide, by decide, by decide⟩
              · exact ⟨by decide, by decide, by decide⟩
            · rw [if_neg f4, hmu f hf f4]; exact ⟨by decide, by decide⟩
  · have hr : r = 0 := by
      have h9 := hv.2
      have : (ma_ck k).2.2 = 1 := by
        match k, h2 with
        | 0, _ => rfl
        | 1, _ => rfl
        | k + 2, h2 => omega
      rw [this] at h9
      omega
    subst hr
    match k, h2 with
    | 0, _ =>
      obtain ⟨cell, e1, e2, e3, e4, e5⟩ := h8
      refine ⟨fun z => absurd z (by decide), fun z => absurd z (by decide), fun _ => ⟨cell, e1, e2, e3, ?_, fun _ => e4, fun i hi0 hi1 => ?_⟩, fun ci z => ?_⟩
      · rw [e4]; exact Nat.le_refl _
      · have hi1 : i < (G.LS : Int) := hi1
        have hx : st_mu xs 0 0 i = (xs i.toNat).toInt := rfl
        rw [hx]
        exact ⟨⟨(ma_rng _).1, (ma_rng _).2⟩, by rw [e5 i.toNat (by omega), ma_oI]⟩
      · have : (8 : Nat) = 10 + ci := z
        omega
    | 1, _ =>
      obtain ⟨cell, e1, e2, e3, e4, e5⟩ := h7
      refine ⟨fun z => absurd z (by decide), fun z => absurd z (by decide), fun _ => ⟨cell, e1, e2, e3, ?_, fun z => absurd z (by decide), fun i hi0 hi1 => ?_⟩, fun ci z => ?_⟩
      · rw [e4]; exact Nat.le_refl 4
      · have hi1 : i < (4 : Int) := hi1
        have hx : st_mu xs 1 0 i = st_pat.getD i.toNat 0 := rfl
        rw [hx]
        refine ⟨?_, e5 i.toNat (by omega)⟩
        obtain ⟨n, rfl⟩ : ∃ n : Nat, i = n := ⟨i.toNat, by omega⟩
        have hn : n < 4 := by omega
        match n, hn with
        | 0, _ => exact ⟨by decide, by decide⟩
        | 1, _ => exact ⟨by decide, by decide⟩
        | 2, _ => exact ⟨by decide, by decide⟩
        | 3, _ => exact ⟨by decide, by decide⟩
      · have : (7 : Nat) = 10 + ci := z
        omega
    | k + 2, h2 => omega
theorem st_Rel (xs : Nat → Int32) : Rel (st_mu xs) := by
  have z : ∀ (k : Nat) (r i : Int), k ≠ 0 → k ≠ 1 → k ≠ 69 → k ≠ 109 → k ≠ 110 → st_mu xs k r i = 0 := fun k r i h0 h1 h2 h3 h4 => by rw [st_mu_Z xs k r i h0 h1 h2, st_mem0 k i h3 h4]
  have z3 : ∀ i, st_mu xs 3 0 i = 0 := fun i => z 3 0 i (by decide) (by decide) (by decide) (by decide) (by decide)
  have m : ∀ i : Int, i ≠ 46 → i ≠ 47 → st_mu xs 69 0 i = 0 := fun i h1 h2 => by
    unfold st_mu
    rw [if_neg (by decide), if_neg (by decide), if_pos rfl, if_neg h1, if_neg h2]
  refine Rel_zero ?_ ?_ (z 2 0 10 (by decide) (by decide) (by decide) (by decide) (by decide)) (m 26 (by decide) (by decide)) (m 27 (by decide) (by decide)) (m 28 (by decide) (by decide)) (m 29 (by decide) (by decide)) (fun e _ _ => z 96 0 e (by decide) (by decide) (by decide) (by decide) (by decide))
  · unfold rl_c
    simp only [z3, m 8 (by decide) (by decide), m 9 (by decide) (by decide), m 10 (by decide) (by decide), m 11 (by decide) (by decide)]
    refine ⟨by decide, by decide, by decide, by decide, by decide, by decide, by decide, by decide, trivial, trivial, trivial, trivial, fun i h0 h1 => by omega, fun i h0 h1 => by omega, fun i h0 h1 => by omega, fun i h0 h1 => by omega, fun i h0 h1 => by omega, fun i h0 h1 => by omega⟩
  · refine ⟨rfl, rfl, rfl, rfl, Or.inl ⟨rfl, rfl⟩, fun e h0 h1 => ?_, fun i h0 h1 => Or.inl (z 77 0 i (by decide) (by decide) (by decide) (by decide) (by decide))⟩
    obtain ⟨n, rfl⟩ : ∃ n : Nat, e = n := ⟨e.toNat, by omega⟩
    rw [st_mu_Z xs 109 0 _ (by decide) (by decide) (by decide), st_mu_Z xs 109 0 _ (by decide) (by decide) (by decide)]
    exact st_wire n (by omega)
