/-! the circuit's values; circuitOutput -/
def cv_eq (μ : ma_M) (v : Int → Int) (n : Int) : Int :=
  if μ 4 0 n = 105 then μ 61 0 (μ 10 0 n) else if μ 4 0 n = 114 then μ 67 0 n else if μ 4 0 n = 97 then (if v (μ 5 0 n) = 0 ∨ v (μ 6 0 n) = 0 then 0 else 1) else
  if μ 4 0 n = 111 then (if v (μ 5 0 n) = 0 ∧ v (μ 6 0 n) = 0 then 0 else 1) else if μ 4 0 n = 120 then (if v (μ 5 0 n) = v (μ 6 0 n) then 0 else 1) else (if v (μ 5 0 n) = 0 then 1 else 0)
def cv_ok (μ : ma_M) (v : Int → Int) (N : Int) : Prop := ∀ n : Int, 0 ≤ n → n < N → (v n = 0 ∨ v n = 1) ∧ v n = cv_eq μ v n
theorem cv_gate {μ : ma_M} (Hc : rl_c μ) {n : Int} (n0 : 0 ≤ n) (n1 : n < μ 3 0 10) (a : μ 4 0 n ≠ 105) (b : μ 4 0 n ≠ 114) : μ 5 0 n = μ 5 0 n ∧ 0 ≤ μ 5 0 n ∧ μ 5 0 n < n ∧ μ 6 0 n = μ 6 0 n ∧ 0 ≤ μ 6 0 n ∧ μ 6 0 n < n := by
  have := (Hc.2.2.2.2.2.2.2.2.2.2.2.2.1 n n0 n1).2.2.2.2 a b
  exact ⟨this.1, this.2.1, this.2.2.1, this.2.2.2.1, this.2.2.2.2.1, this.2.2.2.2.2.1⟩
theorem cv_cg {μ : ma_M} (Hc : rl_c μ) {v w : Int → Int} {n : Int} (n0 : 0 ≤ n) (n1 : n < μ 3 0 10) (h : ∀ k : Int, 0 ≤ k → k < n → v k = w k) : cv_eq μ v n = cv_eq μ w n := by
  unfold cv_eq
  by_cases a : μ 4 0 n = 105
  · rw [if_pos a, if_pos a]
  · by_cases b : μ 4 0 n = 114
    · rw [if_neg a, if_neg a, if_pos b, if_pos b]
    · have g := cv_gate Hc n0 n1 a b
      rw [h _ g.2.1 g.2.2.1, h _ g.2.2.2.2.1 g.2.2.2.2.2]
theorem cv_uniq {μ : ma_M} (Hc : rl_c μ) {v w : Int → Int} (hv : cv_ok μ v (μ 3 0 10)) (hw : cv_ok μ w (μ 3 0 10)) : ∀ n : Nat, (n : Int) < μ 3 0 10 → v n = w n := by
  intro n
  induction n using Nat.strongRecOn with
  | _ n ih =>
    intro hn
    rw [(hv n (by omega) hn).2, (hw n (by omega) hn).2]
    refine cv_cg Hc (by omega) hn (fun k k0 k1 => ?_)
    have := ih k.toNat (by omega) (by omega)
    rw [show ((k.toNat : Nat) : Int) = k from by omega] at this
    exact this
/-- the class's inputs and registers are bits -/
def cv_in (μ : ma_M) : Prop := (∀ j : Int, 0 ≤ j → j < 6 → μ 61 0 j = 0 ∨ μ 61 0 j = 1) ∧ (∀ i : Int, 0 ≤ i → i < μ 3 0 10 → μ 4 0 i = 114 → μ 67 0 i = 0 ∨ μ 67 0 i = 1)
theorem cv_01 {μ : ma_M} (Hc : rl_c μ) (Hi : cv_in μ) {v : Int → Int} {n : Int} (n0 : 0 ≤ n) (n1 : n < μ 3 0 10) : cv_eq μ v n = 0 ∨ cv_eq μ v n = 1 := by
  have hn := Hc.2.2.2.2.2.2.2.2.2.2.2.2.1 n n0 n1
  unfold cv_eq
  by_cases a : μ 4 0 n = 105
  · rw [if_pos a]
    have := hn.2.2.1 a
    exact Hi.1 _ this.2.1 (by have := Hc.2.2.2.1; omega)
  · rw [if_neg a]
    by_cases b : μ 4 0 n = 114
    · rw [if_pos b]; exact Hi.2 n n0 n1 b
    · rw [if_neg b]
      repeat' split
      all_goals omega
/-- one more value -/
theorem cv_up {μ : ma_M} (Hc : rl_c μ) (Hi : cv_in μ) {v v' : Int → Int} {n x : Int} (n0 : 0 ≤ n) (n1 : n < μ 3 0 10) (h : cv_ok μ v n) (h' : ∀ k : Int, v' k = if k = n then x else v k) (hx : x = cv_eq μ v n) : cv_ok μ v' (n + 1) := by
  intro k k0 k1
  have cg : cv_eq μ v' k = cv_eq μ v k := cv_cg Hc k0 (by omega) (fun j j0 j1 => by rw [h' j, if_neg (by omega)])
  rw [cg, h' k]
  by_cases e : k = n
  · rw [if_pos e, e, hx]; exact ⟨cv_01 Hc Hi n0 n1, rfl⟩
  · rw [if_neg e]; exact h k k0 (by omega)
theorem sp_findValues {LS d : Nat} {Post : ma_R → ma_M → Prop} {μ : ma_M} (Hc : rl_c μ) (Hi : cv_in μ)
    (h : ∀ m : ma_M, (∀ c : Nat, c ≠ 68 → m c = μ c) → cv_ok μ (m 68 0) (μ 3 0 10) → Post (.inl none) m) :
    ma_Ox LS (d + 2) mi_Runner_findValues [ma_Rf 66 0, ma_Rf 61 0] μ Post := by
  have N0 := Hc.1
  have N1 := Hc.2.1
  refine gi_Runner_findValues (fun R hR => s_Runner_findValues_0 hR ?_)
  refine ma_cnt (σ := ma_M) (N := μ 3 0 10) (P := fun i m => R 2 [ma_Rf 66 0, ma_Rf 61 0, ma_I i] [] 0 m) (I := fun n m => (∀ c : Nat, c ≠ 68 → m c = μ c) ∧ cv_ok μ (m 68 0) n) ?_ ?_ 0 μ (by omega) (by omega) ⟨fun _ _ => rfl, fun n a b => by omega⟩
  · intro n m n0 n1 ⟨a1, a2⟩ ih
    have em : ∀ c : Nat, c < 68 → m c = μ c := fun c hc => a1 c (by omega)
    have nx : ∀ x : Int, x = cv_eq μ (m 68 0) n → R 2 [ma_Rf 66 0, ma_Rf 61 0, ma_I (n + 1)] [] 0 (ma_up m 68 0 n x) := fun x hx => ih _ ⟨fun c hc => by rw [ma_up_ck hc]; exact a1 c hc, cv_up Hc Hi n0 n1 a2 (fun k => by simp [ma_up_rd]) hx⟩
    have hn := Hc.2.2.2.2.2.2.2.2.2.2.2.2.1 n n0 n1
    refine s_Runner_findValues_2 hR ⟨fun q => by rw [em 3 (by omega)] at q; omega, fun _ => ?_⟩
    rw [em 4 (by omega), em 5 (by omega), em 6 (by omega), em 10 (by omega), em 61 (by omega), em 67 (by omega)]
    refine ⟨by omega, fun k1 => ⟨fun k2 => ?_, fun k2 => ⟨by omega, nx _ (by unfold cv_eq; rw [if_neg k1, if_pos k2])⟩⟩, fun k1 => ⟨by have := hn.2.2.1 k1; have := Hc.2.2.2.1; omega, by omega, nx _ (by unfold cv_eq; rw [if_pos k1])⟩⟩
    have g := cv_gate Hc n0 n1 k1 k2
    have xa := (a2 _ g.2.1 g.2.2.1).1
    have xb := (a2 _ g.2.2.2.2.1 g.2.2.2.2.2).1
    unfold cv_eq at nx
    rw [if_neg k1, if_neg k2] at nx
    generalize m 68 0 (μ 5 0 n) = a at xa nx ⊢
    generalize m 68 0 (μ 6 0 n) = b at xb nx ⊢
    refine ⟨by omega, by omega, fun k3 => ⟨fun k4 => ⟨fun k5 => ⟨by omega, nx _ ?_⟩, fun k5 => ⟨by omega, nx _ ?_⟩⟩, fun k4 => ⟨by omega, nx _ ?_⟩⟩, fun k3 => ⟨by omega, nx _ ?_⟩⟩
    · rw [if_neg k3, if_neg k4, if_neg k5]; rcases xa with rfl | rfl <;> decide
    · rw [if_neg k3, if_neg k4, if_pos k5]; rcases xa with rfl | rfl <;> rcases xb with rfl | rfl <;> decide
    · rw [if_neg k3, if_pos k4]; rcases xa with rfl | rfl <;> rcases xb with rfl | rfl <;> decide
    · rw [if_pos k3]; rcases xa with rfl | rfl <;> rcases xb with rfl | rfl <;> decide
  · intro m ⟨a1, a2⟩
    exact s_Runner_findValues_2 hR ⟨fun _ => h m a1 a2, fun q => by rw [a1 3 (by decide)] at q; omega⟩
