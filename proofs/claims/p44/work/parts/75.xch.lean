/-! two cells exchange their blocks -/
def cu_x1 (kp : Nat) (μ : ma_M) (a b : Int) : ma_M := ma_up (ma_up μ kp 0 a (μ kp 0 b)) kp 0 b (μ kp 0 a)
def cu_x2 (kp kq : Nat) (μ : ma_M) (a b : Int) : ma_M := if cu_x1 kp μ a b kp 0 a < 0 then cu_x1 kp μ a b else ma_up (cu_x1 kp μ a b) kq 0 (cu_x1 kp μ a b kp 0 a) a
def cu_xm (kp kq : Nat) (μ : ma_M) (a b : Int) : ma_M := if cu_x1 kp μ a b kp 0 b < 0 then cu_x2 kp kq μ a b else ma_up (cu_x2 kp kq μ a b) kq 0 (cu_x1 kp μ a b kp 0 b) b
/-- all ways of the exchange end in one memory -/
theorem cu_xw {kp kq : Nat} {μ : ma_M} {a b : Int} {Q : ma_M → Prop} (hA : cu_x1 kp μ a b kp 0 a < 48) (hB : cu_x1 kp μ a b kp 0 b < 48) (h : Q (cu_xm kp kq μ a b)) :
    (((cu_x1 kp μ a b kp 0 a) < 0 → ((cu_x1 kp μ a b kp 0 b) < 0 → Q (cu_x1 kp μ a b)) ∧ (0 ≤ (cu_x1 kp μ a b kp 0 b) → (0 ≤ (cu_x1 kp μ a b kp 0 b) ∧ (cu_x1 kp μ a b kp 0 b) < 48) ∧ Q (ma_up (cu_x1 kp μ a b) kq 0 (cu_x1 kp μ a b kp 0 b) b))) ∧
     (0 ≤ (cu_x1 kp μ a b kp 0 a) → (0 ≤ (cu_x1 kp μ a b kp 0 a) ∧ (cu_x1 kp μ a b kp 0 a) < 48) ∧ (((cu_x1 kp μ a b kp 0 b) < 0 → Q (ma_up (cu_x1 kp μ a b) kq 0 (cu_x1 kp μ a b kp 0 a) a)) ∧ (0 ≤ (cu_x1 kp μ a b kp 0 b) → (0 ≤ (cu_x1 kp μ a b kp 0 b) ∧ (cu_x1 kp μ a b kp 0 b) < 48) ∧ Q (ma_up (ma_up (cu_x1 kp μ a b) kq 0 (cu_x1 kp μ a b kp 0 a) a) kq 0 (cu_x1 kp μ a b kp 0 b) b))))) := by
  unfold cu_xm cu_x2 at h
  refine ⟨fun x => ⟨fun y => ?_, fun y => ⟨⟨y, hB⟩, ?_⟩⟩, fun x => ⟨⟨x, hA⟩, fun y => ?_, fun y => ⟨⟨y, hB⟩, ?_⟩⟩⟩
  · rw [if_pos y, if_pos x] at h; exact h
  · rw [if_neg (by omega), if_pos x] at h; exact h
  · rw [if_pos y, if_neg (by omega)] at h; exact h
  · rw [if_neg (by omega), if_neg (by omega)] at h; exact h
/-- the exchange of rows -/
def cu_xp (p : Int → Int) (a b x : Int) : Int := if x = b then p a else if x = a then p b else p x
def cu_xq (p q : Int → Int) (a b k : Int) : Int := if 0 ≤ p a ∧ k = p a then b else if 0 ≤ p b ∧ k = p b then a else q k
theorem cu_x1_rd {kp : Nat} {μ : ma_M} {a b x : Int} : cu_x1 kp μ a b kp 0 x = cu_xp (μ kp 0) a b x := by
  unfold cu_x1 cu_xp; simp [ma_up_rd]
theorem cu_xm_rd {kp kq : Nat} (hne : kp ≠ kq) {μ : ma_M} {a b : Int} : (∀ x : Int, cu_xm kp kq μ a b kp 0 x = cu_xp (μ kp 0) a b x) ∧ (∀ k : Int, cu_xm kp kq μ a b kq 0 k = cu_xq (μ kp 0) (μ kq 0) a b k) ∧ (∀ c : Nat, c ≠ kp → c ≠ kq → cu_xm kp kq μ a b c = μ c) ∧ (∀ r x : Int, r ≠ 0 → cu_xm kp kq μ a b kp r x = μ kp r x ∧ cu_xm kp kq μ a b kq r x = μ kq r x) := by
  have e1 : ∀ c : Nat, c ≠ kp → cu_x1 kp μ a b c = μ c := fun c hc => by unfold cu_x1; rw [ma_up_ck hc, ma_up_ck hc]
  have ea := cu_x1_rd (kp := kp) (μ := μ) (a := a) (b := b) (x := a)
  have eb := cu_x1_rd (kp := kp) (μ := μ) (a := a) (b := b) (x := b)
  have va : cu_xp (μ kp 0) a b a = μ kp 0 b := by
    unfold cu_xp
    by_cases e : a = b
    · rw [if_pos e, e]
    · rw [if_neg e, if_pos rfl]
  have vb : cu_xp (μ kp 0) a b b = μ kp 0 a := by unfold cu_xp; rw [if_pos rfl]
  rw [va] at ea
  rw [vb] at eb
  refine ⟨fun x => ?_, fun k => ?_, fun c c1 c2 => ?_, fun r x hr => ⟨?_, ?_⟩⟩
  · have : cu_xm kp kq μ a b kp 0 x = cu_x1 kp μ a b kp 0 x := by
      unfold cu_xm cu_x2
      split <;> split <;> simp only [ma_up_ck hne]
    rw [this]; exact cu_x1_rd
  · unfold cu_xm cu_x2 cu_xq
    rw [ea, eb]
    have e0 : ∀ k, cu_x1 kp μ a b kq 0 k = μ kq 0 k := fun k => by rw [e1 kq (fun z => hne z.symm)]
    by_cases h1 : μ kp 0 a < 0
    · rw [if_pos h1, if_neg (show ¬ (0 ≤ μ kp 0 a ∧ k = μ kp 0 a) by omega)]
      by_cases h2 : μ kp 0 b < 0
      · rw [if_pos h2, if_neg (by omega), e0]
      · rw [if_neg h2]
        by_cases e : k = μ kp 0 b
        · rw [if_pos ⟨by omega, e⟩, e, ma_up_eq]
        · rw [if_neg (by omega), ma_up_ne (by omega), e0]
    · rw [if_neg h1]
      by_cases h2 : μ kp 0 b < 0
      · rw [if_pos h2]
        by_cases e : k = μ kp 0 a
        · rw [if_pos ⟨by omega, e⟩, e, ma_up_eq]
        · rw [if_neg (by omega), ma_up_ne (by omega), if_neg (by omega), e0]
      · rw [if_neg h2]
        by_cases e : k = μ kp 0 a
        · rw [if_pos ⟨by omega, e⟩, e, ma_up_eq]
        · rw [if_neg (show ¬ (0 ≤ μ kp 0 a ∧ k = μ kp 0 a) by omega), ma_up_ne (by omega)]
          by_cases e : k = μ kp 0 b
          · rw [if_pos ⟨by omega, e⟩, e, ma_up_eq]
          · rw [if_neg (by omega), ma_up_ne (by omega), e0]
  · unfold cu_xm cu_x2
    split <;> split <;> simp only [ma_up_ck c2, e1 c c1]
  · unfold cu_xm cu_x2 cu_x1
    split <;> split <;> simp [ma_up_rd, hr]
  · unfold cu_xm cu_x2 cu_x1
    split <;> split <;> simp [ma_up_rd, hr]
/-- blocks and cells -/
def cu_pl (c : Int) (p q : Int → Int) : Prop := (∀ b : Int, 0 ≤ b → b < c → 0 ≤ q b ∧ q b < 36 ∧ p (q b) = b) ∧ (∀ x : Int, 0 ≤ x → x < 36 → -1 ≤ p x ∧ p x < c ∧ (0 ≤ p x → q (p x) = x))
theorem cu_pl_x {c : Int} {p q : Int → Int} {a b : Int} (H : cu_pl c p q) (a0 : 0 ≤ a) (a1 : a < 36) (b0 : 0 ≤ b) (b1 : b < 36) : cu_pl c (cu_xp p a b) (cu_xq p q a b) := by
  obtain ⟨h1, h2⟩ := H
  have A := h2 a a0 a1
  have B := h2 b b0 b1
  refine ⟨fun k k0 k1 => ?_, fun x x0 x1 => ?_⟩
  · have K := h1 k k0 k1
    unfold cu_xq
    by_cases e : 0 ≤ p a ∧ k = p a
    · rw [if_pos e]
      refine ⟨b0, b1, ?_⟩
      unfold cu_xp; rw [if_pos rfl, e.2]
    · rw [if_neg e]
      by_cases e2 : 0 ≤ p b ∧ k = p b
      · rw [if_pos e2]
        refine ⟨a0, a1, ?_⟩
        unfold cu_xp
        by_cases e3 : a = b
        · rw [e3] at e; omega
        · rw [if_neg e3, if_pos rfl, e2.2]
      · rw [if_neg e2]
        refine ⟨K.1, K.2.1, ?_⟩
        unfold cu_xp
        have n1 : q k ≠ b := fun z => e2 (by rw [z] at K; omega)
        have n2 : q k ≠ a := fun z => e (by rw [z] at K; omega)
        rw [if_neg n1, if_neg n2]; exact K.2.2
  · have X := h2 x x0 x1
    unfold cu_xp
    by_cases e : x = b
    · rw [if_pos e]
      refine ⟨A.1, A.2.1, fun z => ?_⟩
      unfold cu_xq; rw [if_pos ⟨z, rfl⟩, e]
    · rw [if_neg e]
      by_cases e2 : x = a
      · rw [if_pos e2]
        refine ⟨B.1, B.2.1, fun z => ?_⟩
        unfold cu_xq
        have : ¬ (0 ≤ p a ∧ p b = p a) := by
          intro w
          have q1 := A.2.2 w.1
          have q2 := B.2.2 z
          rw [w.2] at q2
          omega
        rw [if_neg this, if_pos ⟨z, rfl⟩, e2]
      · rw [if_neg e2]
        refine ⟨X.1, X.2.1, fun z => ?_⟩
        unfold cu_xq
        have n1 : ¬ (0 ≤ p a ∧ p x = p a) := by
          intro w
          have q1 := A.2.2 w.1
          have q2 := X.2.2 z
          rw [w.2] at q2; omega
        have n2 : ¬ (0 ≤ p b ∧ p x = p b) := by
          intro w
          have q1 := B.2.2 w.1
          have q2 := X.2.2 z
          rw [w.2] at q2; omega
        rw [if_neg n1, if_neg n2]; exact X.2.2 z
theorem cu_pl_of {μ : ma_M} (H : rl_p μ) : cu_pl (μ 21 0 7) (μ 33 0) (μ 32 0) :=
  ⟨fun b b0 b1 => ⟨(H.1 b b0 b1).2.1, (H.1 b b0 b1).2.2.1, (H.1 b b0 b1).2.2.2.1⟩, fun x x0 x1 => ⟨(H.2 x x0 x1).2.1, (H.2 x x0 x1).2.2.1, (H.2 x x0 x1).2.2.2⟩⟩
/-- a memory with other places in the class's half -/
def cu_vw (μ : ma_M) (p q : Int → Int) : ma_M := fun c r x => if c = 32 ∧ r = 0 then q x else if c = 33 ∧ r = 0 then p x else μ c r x
theorem cu_vw_rd (μ : ma_M) (p q : Int → Int) : cu_vw μ p q 32 0 = q ∧ cu_vw μ p q 33 0 = p ∧ ∀ c : Nat, c ≠ 32 → c ≠ 33 → cu_vw μ p q c = μ c := by
  refine ⟨?_, ?_, fun c c1 c2 => ?_⟩
  · funext x; simp [cu_vw]
  · funext x; simp [cu_vw]
  · funext r x; simp [cu_vw, c1, c2]

