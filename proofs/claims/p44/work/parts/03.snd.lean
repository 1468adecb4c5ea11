/-! THE SMALL MACHINE IS TRUE TO THE JVM: what stands for what -/
/-- where the cells lie; the array classes, the classes, their fields' slots; the heap's size at the law's entry; the script's length -/
abbrev ma_G : Type := (Nat → Int → Nat) × (Nat → ClassId) × (Nat → ClassId) × (Nat → Nat → Nat) × Nat × Nat × (Nat → Bool)
abbrev ma_G.ad (G : ma_G) : Nat → Int → Nat := G.1
abbrev ma_G.dA (G : ma_G) : Nat → ClassId := G.2.1
abbrev ma_G.dC (G : ma_G) : Nat → ClassId := G.2.2.1
abbrev ma_G.dI (G : ma_G) : Nat → Nat → Nat := G.2.2.2.1
abbrev ma_G.h0 (G : ma_G) : Nat := G.2.2.2.2.1
abbrev ma_G.LS (G : ma_G) : Nat := G.2.2.2.2.2.1
/-- which cells are there -/
abbrev ma_G.lv (G : ma_G) : Nat → Bool := G.2.2.2.2.2.2
def ma_val (G : ma_G) (k : Nat) (r : Int) : Prop := k < ma_cells.length ∧ 0 ≤ r ∧ r < ((ma_ck k).2.2 : Int) ∧ G.lv k = true
def ma_fat (t : Nat) : FieldType := match t with | 0 => .int | 1 => .long | 2 => .boolean | 3 => .char | 4 => .int | 5 => .array .int | _ => .array .long
def ma_cv (t : Nat) (n : Int) : Value := if t = 1 then .long (Int64.ofInt n) else .int (Int32.ofInt n)
def ma_can (t : Nat) (n : Int) : Prop := if t = 1 then -9223372036854775808 ≤ n ∧ n < 9223372036854775808 else -2147483648 ≤ n ∧ n < 2147483648
def ma_fv (G : ma_G) (μ : ma_M) (k : Nat) (r : Int) (ci f : Nat) : Value :=
  if ma_fk ci f = 1 then .long (Int64.ofInt (μ k r f)) else if ma_fk ci f = 3 then .ref (G.ad (ma_rf k f) 0) else if ma_fk ci f = 4 then .ref (G.ad (μ k r f).toNat 0) else .int (Int32.ofInt (μ k r f))
def ma_fcan (G : ma_G) (k ci f : Nat) (n : Int) : Prop :=
  if ma_fk ci f = 1 then -9223372036854775808 ≤ n ∧ n < 9223372036854775808 else if ma_fk ci f = 3 then ma_val G (ma_rf k f) 0 else if ma_fk ci f = 4 then ma_val G n.toNat 0 else -2147483648 ≤ n ∧ n < 2147483648
def ma_Rv (G : ma_G) (v : ma_V) (w : Value) : Prop := match v with
  | .inl n => ∃ x : Int32, w = .int x ∧ x.toInt = n
  | .inr (.inl n) => ∃ x : Int64, w = .long x ∧ x.toInt = n
  | .inr (.inr (.inl a)) => w = .ref (G.ad a.1 a.2) ∧ ma_val G a.1 a.2
  | .inr (.inr (.inr (.inl b))) => w = .double b
  | .inr (.inr (.inr (.inr (.inl b)))) => w = .float b
  | .inr (.inr (.inr (.inr (.inr (.inl _))))) => ∃ q : Nat, w = .ref q
  | .inr (.inr (.inr (.inr (.inr (.inr _))))) => True
def ma_RS (G : ma_G) : List ma_V → List Value → Prop
  | [], [] => True
  | v :: vs, w :: ws => ma_Rv G v w ∧ ma_RS G vs ws
  | _, _ => False
def ma_RL (G : ma_G) (nL : Nat) (al : List ma_V) (ls : Array Slot) : Prop := al.length = nL ∧ ls.size = nL ∧ lv_wf ls ∧ ∀ (i : Nat) (v : ma_V), al[i]? = some v → v = ma_U ∨ ∃ w, ls[i]? = some (.val w) ∧ ma_Rv G v w
/-- the heap holds the memory -/
def ma_HR (G : ma_G) (U : State) (μ : ma_M) (H : Heap) : Prop := ∀ (k : Nat) (r : Int), ma_val G k r →
  ((ma_ck k).1 ≤ 4 → H[G.ad k r]? = some (arrV (G.dA (ma_ck k).1) (ma_ck k).2.1 (fun j => ma_cv (ma_ck k).1 (μ k r j))) ∧ ∀ i : Int, 0 ≤ i → i < ((ma_ck k).2.1 : Int) → ma_can (ma_ck k).1 (μ k r i)) ∧
  ((ma_ck k).1 = 5 ∨ (ma_ck k).1 = 6 → H[G.ad k r]? = some (arrV (G.dA (ma_ck k).1) (ma_ck k).2.1 (fun j => .ref (G.ad (k + 1) j)))) ∧
  ((ma_ck k).1 = 7 ∨ (ma_ck k).1 = 8 → ∃ cell : Cell, H[G.ad k r]? = some cell ∧ U.isArrayOf cell .int ∧ cell.vm ≠ .unknown ∧ ma_len G.LS k ≤ cell.slots.size ∧ ((ma_ck k).1 = 8 → cell.slots.size = G.LS) ∧ ∀ i : Int, 0 ≤ i → i < (ma_len G.LS k : Int) → ma_can 0 (μ k r i) ∧ cell.slots[i.toNat]? = some (.int (Int32.ofInt (μ k r i)))) ∧
  (∀ ci : Nat, (ma_ck k).1 = 10 + ci → t_OB (G.ad k r) (G.dC ci) (ma_N ci) (G.dI ci) H (fun f => ma_fv G μ k r ci f) ∧ ∀ f : Nat, f < ma_N ci → ma_fcan G k ci f (μ k r f))
/-- the addresses are apart; all but the script and the static row are new -/
def ma_AD (G : ma_G) : Prop := (∀ (k k' : Nat) (r r' : Int), ma_val G k r → ma_val G k' r' → G.ad k r = G.ad k' r' → k = k' ∧ r = r') ∧ (∀ (k : Nat) (r : Int), ma_val G k r → 2 ≤ k → G.h0 ≤ G.ad k r) ∧ G.LS < 2147483648 ∧ G.lv 0 = true ∧ G.lv 1 = true ∧ ∀ a : Nat, ((ma_ck a).1 = 5 ∨ (ma_ck a).1 = 6) → G.lv a = true → G.lv (a + 1) = true
def ma_A (G : ma_G) : Nat → Prop := fun q => G.h0 ≤ q
def ma_WG : List Cond := lw_tbl.filter goodWord
theorem ma_WG_in {w : Cond} (h : w ∈ lw_tbl) (g : goodWord w = true) : w ∈ ma_WG := List.mem_filter.mpr ⟨h, g⟩
/-- what the tables say of the classes -/
def ma_KK (G : ma_G) (U : State) : Prop := (∀ t, t ≤ 6 → ArrOfT U (G.dA t) (ma_fat t)) ∧ va_RA U (G.dA 0) .int ∧ (∀ ci, ci < 11 → u_Kn U (ma_C ci) (ma_T ci) (ma_N ci) (G.dC ci) (G.dI ci))
theorem ma_KK.moved {G : ma_G} {u U : State} (hvm : u.vm.Alike U.vm) (h : ma_KK G u) : ma_KK G U := ⟨fun t ht => arrOfT_moved hvm (h.1 t ht), h.2.1.moved hvm, fun ci hc => u_Kn_moved hvm (h.2.2 ci hc)⟩
theorem ma_HR.moved {G : ma_G} {u U : State} {μ : ma_M} {H : Heap} (hvm : u.vm.Alike U.vm) (h : ma_HR G u μ H) : ma_HR G U μ H := fun k r hv => by
  obtain ⟨h1, h2, h3, h4⟩ := h k r hv
  refine ⟨h1, h2, fun hk => ?_, h4⟩
  obtain ⟨cell, q1, q2, q3⟩ := h3 hk
  exact ⟨cell, q1, State.isArrayOf_alike hvm q2, q3⟩
/-- one cell changes -/
theorem ma_HR.keep {G : ma_G} {U : State} {μ μ' : ma_M} {H H1 : Heap} {a : Nat} {k0 : Nat} {r0 : Int} (hA : ma_AD G) (h : ma_HR G U μ H) (hv0 : ma_val G k0 r0) (ha : a = G.ad k0 r0) (oq : ∀ q : Nat, q ≠ a → H1[q]? = H[q]?)
    (hμ : ∀ (k : Nat) (r i : Int), ¬ (k = k0 ∧ r = r0) → μ' k r i = μ k r i)
    (h0 : ((ma_ck k0).1 ≤ 4 → H1[G.ad k0 r0]? = some (arrV (G.dA (ma_ck k0).1) (ma_ck k0).2.1 (fun j => ma_cv (ma_ck k0).1 (μ' k0 r0 j))) ∧ ∀ i : Int, 0 ≤ i → i < ((ma_ck k0).2.1 : Int) → ma_can (ma_ck k0).1 (μ' k0 r0 i)) ∧
      (∀ ci : Nat, (ma_ck k0).1 = 10 + ci → t_OB (G.ad k0 r0) (G.dC ci) (ma_N ci) (G.dI ci) H1 (fun f => ma_fv G μ' k0 r0 ci f) ∧ ∀ f : Nat, f < ma_N ci → ma_fcan G k0 ci f (μ' k0 r0 f)))
    (hk0 : (ma_ck k0).1 ≤ 4 ∨ 10 ≤ (ma_ck k0).1) : ma_HR G U μ' H1 := by
  intro k r hv
  by_cases hkr : k = k0 ∧ r = r0
  · obtain ⟨rfl, rfl⟩ := hkr
    exact ⟨h0.1, fun z => by omega, fun z => by omega, h0.2⟩
  · have hne : G.ad k r ≠ a := fun z => hkr (hA.1 k k0 r r0 hv hv0 (z.trans ha))
    have e1 := oq _ hne
    have e2 : ∀ i, μ' k r i = μ k r i := fun i => hμ k r i hkr
    obtain ⟨h1, h2, h3, h4⟩ := h k r hv
    refine ⟨fun z => ?_, fun z => by rw [e1]; exact h2 z, fun z => ?_, fun ci z => ?_⟩
    · rw [e1]; simp only [e2]; exact h1 z
    · rw [e1]; simp only [e2]; exact h3 z
    · obtain ⟨q1, q2⟩ := h4 ci z
      refine ⟨?_, by simp only [e2]; exact q2⟩
      have := q1.kept e1
      simpa only [ma_fv, e2] using this
section LOC
theorem ma_lvfull {ls : Array Slot} {nL : Nat} (h1 : ls.size = nL) (h2 : lv_wf ls) : ∃ lv : List (Nat × Value), lv_has ls nL lv ∧ ∀ (i : Nat) (w : Value), ls[i]? = some (.val w) → (i, w) ∈ lv := by
  refine ⟨(List.range nL).filterMap (fun i => match (ls[i]? : Option Slot) with | some (Slot.val w) => some (i, w) | _ => none), ⟨h1, h2, ?_⟩, ?_⟩
  · intro q hq
    obtain ⟨i, -, hi⟩ := List.mem_filterMap.mp hq
    cases hs : ls[i]? with
    | none => rw [hs] at hi; cases hi
    | some z =>
      rw [hs] at hi
      cases z with
      | val w => cases hi; exact hs
      | unset => cases hi
      | second => cases hi
  · intro i w hi
    have hlt : i < nL := by rw [← h1]; exact lv_lt hi
    exact List.mem_filterMap.mpr ⟨i, List.mem_range.mpr hlt, by rw [hi]⟩
theorem ma_st1_len : ∀ (ls : List ma_V) (i : Nat) (v : ma_V), (ma_st1 ls i v).length = ls.length
  | [], i, v => by cases i <;> rfl
  | x :: ls, 0, v => rfl
  | x :: ls, 1, v => by simp only [ma_st1, List.length_cons, ma_st1_len ls 0 v]
  | x :: ls, n + 2, v => by simp only [ma_st1, List.length_cons, ma_st1_len ls (n + 1) v]
theorem ma_st1_at : ∀ (ls : List ma_V) (i : Nat) (v : ma_V) (j : Nat) (w : ma_V), (ma_st1 ls i v)[j]? = some w → (j = i ∧ w = v) ∨ (j ≠ i ∧ ls[j]? = some w ∧ ¬ (j + 1 = i ∧ ma_c2 w = true)) ∨ w = ma_U
  | [], i, v, j, w, h => by cases i <;> simp [ma_st1] at h
  | x :: ls, 0, v, j, w, h => by
    cases j with
    | zero => simp [ma_st1] at h; exact Or.inl ⟨rfl, h.symm⟩
    | succ j => simp [ma_st1] at h; exact Or.inr (Or.inl ⟨by omega, by simpa using h, by omega⟩)
  | x :: ls, 1, v, j, w, h => by
    cases j with
    | zero =>
      cases hc : ma_c2 x with
      | true => simp [ma_st1, hc] at h; exact Or.inr (Or.inr h.symm)
      | false => simp [ma_st1, hc] at h; subst h; exact Or.inr (Or.inl ⟨by omega, rfl, by simp [hc]⟩)
    | succ j =>
      rw [ma_st1, List.getElem?_cons_succ] at h
      rcases ma_st1_at ls 0 v j w h with ⟨a, b⟩ | ⟨a, b, d⟩ | a
      · exact Or.inl ⟨by omega, b⟩
      · exact Or.inr (Or.inl ⟨by omega, by rw [List.getElem?_cons_succ]; exact b, by omega⟩)
      · exact Or.inr (Or.inr a)
  | x :: ls, n + 2, v, j, w, h => by
    cases j with
    | zero => simp [ma_st1] at h; subst h; exact Or.inr (Or.inl ⟨by omega, rfl, by omega⟩)
    | succ j =>
      rw [ma_st1, List.getElem?_cons_succ] at h
      rcases ma_st1_at ls (n + 1) v j w h with ⟨a, b⟩ | ⟨a, b, d⟩ | a
      · exact Or.inl ⟨by omega, b⟩
      · exact Or.inr (Or.inl ⟨by omega, by rw [List.getElem?_cons_succ]; exact b, fun z => d ⟨by omega, z.2⟩⟩)
      · exact Or.inr (Or.inr a)
theorem ma_st2_len : ∀ (ls : List ma_V) (i : Nat) (v : ma_V), i + 1 < ls.length → (ma_st2 ls i v).length = ls.length
  | [], i, v, h => by simp at h
  | [x], 0, v, h => by simp at h
  | x :: y :: ls, 0, v, h => rfl
  | x :: ls, 1, v, h => by simp only [ma_st2, List.length_cons, ma_st2_len ls 0 v (by simp only [List.length_cons] at h; omega)]
  | x :: ls, n + 2, v, h => by simp only [ma_st2, List.length_cons, ma_st2_len ls (n + 1) v (by simp only [List.length_cons] at h; omega)]
theorem ma_st2_at : ∀ (ls : List ma_V) (i : Nat) (v : ma_V) (j : Nat) (w : ma_V), i + 1 < ls.length → (ma_st2 ls i v)[j]? = some w → (j = i ∧ w = v) ∨ (j ≠ i ∧ j ≠ i + 1 ∧ ls[j]? = some w ∧ ¬ (j + 1 = i ∧ ma_c2 w = true)) ∨ w = ma_U
  | [], i, v, j, w, hi, h => by simp at hi
  | [x], 0, v, j, w, hi, h => by simp at hi
  | x :: y :: ls, 0, v, j, w, hi, h => by
    cases j with
    | zero => simp [ma_st2] at h; exact Or.inl ⟨rfl, h.symm⟩
    | succ j =>
      cases j with
      | zero => simp [ma_st2] at h; exact Or.inr (Or.inr h.symm)
      | succ j => simp [ma_st2] at h; exact Or.inr (Or.inl ⟨by omega, by omega, by simpa using h, by omega⟩)
  | x :: ls, 1, v, j, w, hi, h => by
    cases j with
    | zero =>
      cases hc : ma_c2 x with
      | true => simp [ma_st2, hc] at h; exact Or.inr (Or.inr h.symm)
      | false => simp [ma_st2, hc] at h; subst h; exact Or.inr (Or.inl ⟨by omega, by omega, rfl, by simp [hc]⟩)
    | succ j =>
      rw [ma_st2, List.getElem?_cons_succ] at h
      rcases ma_st2_at ls 0 v j w (by simp only [List.length_cons] at hi; omega) h with ⟨a, b⟩ | ⟨a, a', b, d⟩ | a
      · exact Or.inl ⟨by omega, b⟩
      · exact Or.inr (Or.inl ⟨by omega, by omega, by rw [List.getElem?_cons_succ]; exact b, by omega⟩)
      · exact Or.inr (Or.inr a)
  | x :: ls, n + 2, v, j, w, hi, h => by
    cases j with
    | zero => simp [ma_st2] at h; subst h; exact Or.inr (Or.inl ⟨by omega, by omega, rfl, by omega⟩)
    | succ j =>
      rw [ma_st2, List.getElem?_cons_succ] at h
      rcases ma_st2_at ls (n + 1) v j w (by simp only [List.length_cons] at hi; omega) h with ⟨a, b⟩ | ⟨a, a', b, d⟩ | a
      · exact Or.inl ⟨by omega, b⟩
      · exact Or.inr (Or.inl ⟨by omega, by omega, by rw [List.getElem?_cons_succ]; exact b, fun z => d ⟨by omega, z.2⟩⟩)
      · exact Or.inr (Or.inr a)
theorem ma_Rv_cat {G : ma_G} {v : ma_V} {w : Value} (h : ma_Rv G v w) (hu : v ≠ ma_U) : (ma_c2 v = true ↔ w.category = 2) := by
  rcases v with n | n | a | b | b | q | u
  · obtain ⟨x, rfl, -⟩ := h; simp [ma_c2, Value.category]
  · obtain ⟨x, rfl, -⟩ := h; simp [ma_c2, Value.category]
  · obtain ⟨rfl, -⟩ := h; simp [ma_c2, Value.category]
  · cases h; simp [ma_c2, Value.category]
  · cases h; simp [ma_c2, Value.category]
  · obtain ⟨x, rfl⟩ := h; simp [ma_c2, Value.category]
  · exact absurd rfl hu
theorem ma_Rv_c1 {G : ma_G} {v : ma_V} {w : Value} (h : ma_Rv G v w) (hu : v ≠ ma_U) (hc : ma_c2 v = false) : w.category = 1 := by
  rcases lv_cat w with h1 | h1
  · exact h1
  · have := (ma_Rv_cat h hu).mpr h1
    rw [hc] at this; cases this
/-- a store into a local -/
theorem ma_RL.st1 {G : ma_G} {nL : Nat} {al : List ma_V} {ls ls1 : Array Slot} {lv lv' : List (Nat × Value)} {i : Nat} {v : ma_V} {w : Value} (h : ma_RL G nL al ls) (hf : ∀ (i : Nat) (w : Value), ls[i]? = some (.val w) → (i, w) ∈ lv)
    (hl : (i, w) :: lv.filter (fun q => !(q.1 == i) && !(q.1 + 1 == i && q.2.category == 2)) = lv') (h1 : lv_has ls1 nL lv') (hv : ma_Rv G v w) : ma_RL G nL (ma_st1 al i v) ls1 := by
  subst hl
  refine ⟨by rw [ma_st1_len]; exact h.1, h1.1, h1.2.1, fun j x hj => ?_⟩
  rcases ma_st1_at al i v j x hj with ⟨rfl, rfl⟩ | ⟨hne, hx, hcat⟩ | hu
  · exact Or.inr ⟨w, h1.2.2 _ List.mem_cons_self, hv⟩
  · rcases h.2.2.2 j x hx with rfl | ⟨y, hy, hxy⟩
    · exact Or.inl rfl
    · by_cases hu : x = ma_U
      · exact Or.inl hu
      · refine Or.inr ⟨y, h1.2.2 (j, y) (List.mem_cons_of_mem _ (List.mem_filter.mpr ⟨hf j y hy, ?_⟩)), hxy⟩
        have e1 : (j == i) = false := by simpa using hne
        have e2 : (j + 1 == i && y.category == 2) = false := by
          by_cases hji : j + 1 = i
          · have hc : ¬ ma_c2 x = true := fun z => hcat ⟨hji, z⟩
            have hy2 : ¬ y.category = 2 := fun z => hc ((ma_Rv_cat hxy hu).mpr z)
            simp [hji, hy2]
          · simp [hji]
        show (!(j == i) && !(j + 1 == i && y.category == 2)) = true
        rw [e1, e2]; rfl
  · exact Or.inl hu
theorem ma_RL.st2 {G : ma_G} {nL : Nat} {al : List ma_V} {ls ls1 : Array Slot} {lv lv' : List (Nat × Value)} {i : Nat} {v : ma_V} {w : Value} (h : ma_RL G nL al ls) (hf : ∀ (i : Nat) (w : Value), ls[i]? = some (.val w) → (i, w) ∈ lv) (hi : i + 1 < al.length)
    (hl : (i, w) :: lv.filter (fun q => !(q.1 == i) && (!(q.1 == i + 1) && !(q.1 + 1 == i && q.2.category == 2))) = lv') (h1 : lv_has ls1 nL lv') (hv : ma_Rv G v w) : ma_RL G nL (ma_st2 al i v) ls1 := by
  subst hl
  refine ⟨by rw [ma_st2_len _ _ _ hi]; exact h.1, h1.1, h1.2.1, fun j x hj => ?_⟩
  rcases ma_st2_at al i v j x hi hj with ⟨rfl, rfl⟩ | ⟨hne, hne1, hx, hcat⟩ | hu
  · exact Or.inr ⟨w, h1.2.2 _ List.mem_cons_self, hv⟩
  · rcases h.2.2.2 j x hx with rfl | ⟨y, hy, hxy⟩
    · exact Or.inl rfl
    · by_cases hu : x = ma_U
      · exact Or.inl hu
      · refine Or.inr ⟨y, h1.2.2 (j, y) (List.mem_cons_of_mem _ (List.mem_filter.mpr ⟨hf j y hy, ?_⟩)), hxy⟩
        have e1 : (j == i) = false := by simpa using hne
        have e3 : (j == i + 1) = false := by simpa using hne1
        have e2 : (j + 1 == i && y.category == 2) = false := by
          by_cases hji : j + 1 = i
          · have hc : ¬ ma_c2 x = true := fun z => hcat ⟨hji, z⟩
            have hy2 : ¬ y.category = 2 := fun z => hc ((ma_Rv_cat hxy hu).mpr z)
            simp [hji, hy2]
          · simp [hji]
        show (!(j == i) && (!(j == i + 1) && !(j + 1 == i && y.category == 2))) = true
        rw [e1, e2, e3]; rfl
  · exact Or.inl hu
theorem ma_getD {al : List ma_V} {i : Nat} {v : ma_V} (h : al.getD i ma_U = v) (hv : v ≠ ma_U) : al[i]? = some v := by
  rw [List.getD_eq_getElem?_getD] at h
  cases hq : al[i]? with
  | none => rw [hq] at h; exact absurd h.symm hv
  | some x => rw [hq] at h; rw [← h]; rfl
theorem ma_RL.get {G : ma_G} {nL : Nat} {al : List ma_V} {ls : Array Slot} {i : Nat} {v : ma_V} (h : ma_RL G nL al ls) (hi : al.getD i ma_U = v) (hv : v ≠ ma_U) : ∃ w, ls[i]? = some (.val w) ∧ ma_Rv G v w := by
  rcases h.2.2.2 i v (ma_getD hi hv) with q | q
  · exact absurd q hv
  · exact q
theorem ma_msk_at : ∀ (bs : List Bool) (al : List ma_V) (j : Nat) (x : ma_V), (ma_msk bs al)[j]? = some x → x = ma_U ∨ al[j]? = some x
  | [], al, j, x, h => by cases al <;> simp [ma_msk] at h
  | true :: bs, [], j, x, h => by simp [ma_msk] at h
  | false :: bs, [], j, x, h => by simp [ma_msk] at h
  | true :: bs, v :: al, j, x, h => by
    cases j with
    | zero => simp [ma_msk] at h; exact Or.inr (by rw [h]; rfl)
    | succ j => rw [ma_msk, List.getElem?_cons_succ] at h; rw [List.getElem?_cons_succ]; exact ma_msk_at bs al j x h
  | false :: bs, v :: al, j, x, h => by
    cases j with
    | zero => simp [ma_msk] at h; exact Or.inl h.symm
    | succ j => rw [ma_msk, List.getElem?_cons_succ] at h; rw [List.getElem?_cons_succ]; exact ma_msk_at bs al j x h
theorem ma_msk_len : ∀ (bs : List Bool) (al : List ma_V), bs.length = al.length → (ma_msk bs al).length = al.length
  | [], [], _ => rfl
  | [], _ :: _, h => by simp at h
  | _ :: _, [], h => by simp at h
  | true :: bs, v :: al, h => by rw [ma_msk, List.length_cons, List.length_cons, ma_msk_len bs al (by simpa using h)]
  | false :: bs, v :: al, h => by rw [ma_msk, List.length_cons, List.length_cons, ma_msk_len bs al (by simpa using h)]
theorem ma_RL.msk {G : ma_G} {nL : Nat} {al : List ma_V} {ls : Array Slot} {bs : List Bool} (h : ma_RL G nL al ls) (hb : bs.length = nL) : ma_RL G nL (ma_msk bs al) ls := by
  refine ⟨by rw [ma_msk_len bs al (hb.trans h.1.symm)]; exact h.1, h.2.1, h.2.2.1, fun i v hi => ?_⟩
  rcases ma_msk_at bs al i v hi with q | q
  · exact Or.inl q
  · exact h.2.2.2 i v q
end LOC
