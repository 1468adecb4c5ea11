/-! the stretches: doubles -/
theorem fo_cs (a b : Int) : compare b a = (compare a b).swap := by
  simp only [compare, compareOfLessAndEq]
  by_cases h : a < b
  · rw [if_pos h, if_neg (by omega), if_neg (by omega)]; rfl
  · rw [if_neg h]
    by_cases h2 : a = b
    · rw [if_pos h2, if_neg (by omega), if_pos h2.symm]; rfl
    · rw [if_neg h2, if_pos (by omega)]; rfl
theorem fo_sw (x y : UInt64) : FP.dcmp y x = (FP.dcmp x y).map Ordering.swap := by
  unfold FP.dcmp FP.Core.dcmp FP.Core.cmp
  generalize FP.Core.decode FP.Core.b64 x.toNat = a
  generalize FP.Core.decode FP.Core.b64 y.toNat = b
  cases a <;> cases b <;> simp only [FP.Core.order, Option.map_some, Option.map_none]
  · rw [fo_cs]
  · rw [fo_cs]
  · rw [fo_cs]
  · rw [fo_cs, Int.min_comm]
theorem fo_nn {x y : UInt64} (hx : FP.dcmp x x ≠ none) (hy : FP.dcmp y y ≠ none) : FP.dcmp x y ≠ none := by
  unfold FP.dcmp FP.Core.dcmp FP.Core.cmp at *
  generalize FP.Core.decode FP.Core.b64 x.toNat = a at *
  generalize FP.Core.decode FP.Core.b64 y.toNat = b at *
  cases a <;> cases b <;> simp [FP.Core.order] at hx hy ⊢
theorem fo_self {x : UInt64} (h : Op.cmpValue (FP.dcmp x x) .l = 0) : FP.dcmp x x ≠ none := by
  intro z; rw [z] at h; revert h; decide
/-- greater the one way is less the other -/
theorem fo_gt {x w : UInt64} (hx : Op.cmpValue (FP.dcmp x x) .l = 0) (hw : Op.cmpValue (FP.dcmp w w) .l = 0) : (0 < (Op.cmpValue (FP.dcmp x w) .l).toInt ↔ Op.cmpValue (FP.dcmp w x) .l < 0) := by
  have n := fo_nn (fo_self hx) (fo_self hw)
  rw [fo_sw x w]
  cases h : FP.dcmp x w with
  | none => exact absurd h n
  | some o => cases o <;> decide
def ws_q (a b : Int) : UInt64 := FP.ddiv (FP.i2d (Int32.ofInt a)) (FP.i2d (Int32.ofInt b))
theorem ws_dec : ∀ a : Fin 50, ∀ b : Fin 13, 0 < a.1 → 0 < b.1 → vf_n64 (ws_q ((a.1 : Nat) : Int) ((b.1 : Nat) : Int)) ∧ Op.cmpValue (FP.dcmp (ws_q ((a.1 : Nat) : Int) ((b.1 : Nat) : Int)) (ws_q ((a.1 : Nat) : Int) ((b.1 : Nat) : Int))) .l = 0 ∧ Op.cmpValue (FP.dcmp (ws_q ((a.1 : Nat) : Int) ((b.1 : Nat) : Int)) 0) .l ≠ 0 := by
  unfold vf_n64
  decide +kernel
def ws_m : UInt64 := UInt64.ofNat (Int.toNat 13830554455654793216)
def ws_W (w : UInt64) : Prop := w = ws_m ∨ ∃ a b : Int, 1 ≤ a ∧ a ≤ 49 ∧ 1 ≤ b ∧ b ≤ 12 ∧ w = ws_q a b
theorem ws_ok {w : UInt64} (h : ws_W w) : vf_n64 w ∧ Op.cmpValue (FP.dcmp w w) .l = 0 ∧ Op.cmpValue (FP.dcmp w 0) .l ≠ 0 := by
  rcases h with rfl | ⟨a, b, a0, a1, b0, b1, rfl⟩
  · unfold vf_n64
    decide +kernel
  · have := ws_dec ⟨a.toNat, by omega⟩ ⟨b.toNat, by omega⟩ (by show 0 < a.toNat; omega) (by show 0 < b.toNat; omega)
    dsimp only at this
    rw [show ((a.toNat : Nat) : Int) = a from by omega, show ((b.toNat : Nat) : Int) = b from by omega] at this
    exact this
/-- the worst of some -/
def ws_f (e L : Int → Int) : Nat → UInt64
  | 0 => ws_m
  | n + 1 => if L n ≤ 0 then ws_f e L n else if 0 < (Op.cmpValue (FP.dcmp (ws_q (e n) (L n)) (ws_f e L n)) .l).toInt then ws_q (e n) (L n) else ws_f e L n
theorem ws_fW {e L : Int → Int} : ∀ n : Nat, (∀ i : Int, 0 ≤ i → i < n → L i ≤ 12 ∧ (0 < L i → 1 ≤ e i ∧ e i ≤ 49)) → ws_W (ws_f e L n) := by
  intro n
  induction n with
  | zero => intro _; exact .inl rfl
  | succ n ih =>
    intro h
    have I := ih (fun i i0 i1 => h i i0 (by omega))
    have hn := h n (by omega) (by omega)
    have un : ws_f e L (n + 1) = if L n ≤ 0 then ws_f e L n else if 0 < (Op.cmpValue (FP.dcmp (ws_q (e n) (L n)) (ws_f e L n)) .l).toInt then ws_q (e n) (L n) else ws_f e L n := rfl
    rw [un]
    by_cases p : L n ≤ 0
    · rw [if_pos p]; exact I
    · rw [if_neg p]
      have := hn.2 (by omega)
      split
      · exact .inr ⟨_, _, this.1, this.2, by omega, hn.1, rfl⟩
      · exact I
