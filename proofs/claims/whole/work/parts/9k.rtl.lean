/-! route, the reference: the rounds -/
def rt_fx (m m' : ma_M) : Prop := (∀ c : Nat, c ≠ 69 → c ≠ 91 → c ≠ 94 → c ≠ 95 → c ≠ 96 → c ≠ 97 → c ≠ 98 → c ≠ 99 → c ≠ 100 → m' c = m c) ∧ ∀ f : Int, f ≠ 27 → m' 69 0 f = m 69 0 f
def rt_Mr (m : ma_M) (N : Nat) (s : rt_st) (p : Int → Int) : Prop := (∀ n e : Int, 0 ≤ n → n < N → 0 ≤ e → e < 84 → m 91 0 (n * 84 + e) = rt_i (s.1 n) e) ∧ ∀ e : Int, 0 ≤ e → e < 84 → m 96 0 e = s.2 e ∧ m 97 0 e = p e
def rt_X (m : ma_M) (N : Nat) (s : rt_st) (dn : Int) : Prop := ∀ n x : Int, 0 ≤ n → n < N → n < dn → m 92 0 n = 1 → 0 ≤ x → x < 49 → m 95 0 (n * 49 + x) = s.1 n x
def rt_Z (N : Nat) (pin : Int → Int → Int) (s : rt_st) : Prop := ∀ n : Int, 0 ≤ n → n < N → (∀ x : Int, 0 ≤ x → x < 49 → pin n x = 0) → ∀ x : Int, 0 ≤ x → x < 49 → s.1 n x = -1
theorem rt_i_no {b : Int → Int} {e : Int} (e0 : 0 ≤ e) (e1 : e < 84) (h : ∀ x : Int, 0 ≤ x → x < 49 → b x = -1) : rt_i b e = 0 := by
  have lo := rl_lo_rng e0 e1
  have hi := rl_hi_rng e0 e1
  unfold rt_i
  rw [h _ lo.1 lo.2.1, h _ hi.1 hi.2.1, if_neg (by omega)]
theorem rt_net_Z {N : Nat} {r : Int} {p src : Int → Int} {pin : Int → Int → Int} {s : rt_st} {n : Int} (H : rt_Z N pin s) : rt_Z N pin (rt_net r p src pin n s) := fun k k0 k1 hk x x0 x1 => by
  show (if k = n then rt_lay (rt_t (rt_U s n) p r) (src n) (pin n) 49 else s.1 k) x = -1
  by_cases e : k = n
  · rw [if_pos e, rt_lay_no 49 (fun y y0 y1 => by rw [← e]; exact hk y y0 y1)]
  · rw [if_neg e]; exact H k k0 k1 hk x x0 x1
theorem rt_nets_Z {N : Nat} {r : Int} {p src : Int → Int} {pin : Int → Int → Int} {s : rt_st} (H : rt_Z N pin s) : ∀ n : Nat, rt_Z N pin (rt_nets r p src pin s n)
  | 0 => H
  | n + 1 => rt_net_Z (rt_nets_Z H n)
theorem rt_band : ma_and 1 1 = 1 ∧ ma_and 1 0 = 0 ∧ ma_and 0 1 = 0 ∧ ma_and 0 0 = 0 := ⟨ma_and_nat 1 1 (by decide) (by decide), ma_and_nat 1 0 (by decide) (by decide), ma_and_nat 0 1 (by decide) (by decide), ma_and_nat 0 0 (by decide) (by decide)⟩
def rt_s0 : rt_st := (fun _ _ => -1, fun _ => 0)
theorem rt_G0 {N : Nat} {src : Int → Int} {pin : Int → Int → Int} : rt_G N src pin rt_s0 0 := by
  refine ⟨fun n _ _ => .inl (fun _ _ _ => rfl), fun e e0 e1 => ?_, fun n n0 _ h => by omega⟩
  rw [ma_sum_cong (f := fun n => rt_i (rt_s0.1 n) e) (g := fun _ => 0) N (fun i _ _ => rt_i_no e0 e1 (fun _ _ _ => rfl)), ma_sum_zero]; rfl
theorem sp_routeR {LS d : Nat} {Post : ma_R → ma_M → Prop} {M : ma_M} {N rounds : Nat} {src : Int → Int} {pin : Int → Int → Int} (Hc : rl_c M) (Hm : rl_m M) (Hp : rl_p M) (h26 : ¬ M 69 0 26 = 0) (a0 : 1 ≤ rounds) (a1 : rounds ≤ 20) (hN : M 3 0 10 = N) (hsrc : ∀ n : Int, 0 ≤ n → n < N → (M 4 0 n = 105 ∨ 0 ≤ M 28 0 n) → src n = rl_src M n) (hpin : ∀ n x : Int, 0 ≤ n → n < N → 0 ≤ x → x < 49 → (¬ pin n x = 0 ↔ rl_pin M n x)) (hs : ∀ n : Int, 0 ≤ n → n < N → rt_ns src pin n)
    (h : ∀ m' : ma_M, (∀ c : Nat, c ≠ 69 → c ≠ 91 → c ≠ 92 → c ≠ 93 → c ≠ 94 → c ≠ 95 → c ≠ 96 → c ≠ 97 → c ≠ 98 → c ≠ 99 → c ≠ 100 → m' c = M c) → (∀ f : Int, f ≠ 27 → f ≠ 28 → f ≠ 29 → f ≠ 50 → m' 69 0 f = M 69 0 f) → (m' 69 0 28 = 0 ∧ m' 69 0 29 = 0 ∧ m' 69 0 50 = 0) → cu_nets M m' → (∀ n e : Int, 0 ≤ n → n < N → 0 ≤ e → e < 84 → m' 91 0 (n * 84 + e) = rt_i ((rt_rs N src pin rounds 0 (fun _ => 0) rt_s0).2.1 n) e) → (∀ e : Int, 0 ≤ e → e < 84 → m' 96 0 e = (rt_rs N src pin rounds 0 (fun _ => 0) rt_s0).2.2 e) → rt_X m' N (rt_rs N src pin rounds 0 (fun _ => 0) rt_s0).2 N → (m' 69 0 27 = 1 ∧ rt_cr (rt_rs N src pin rounds 0 (fun _ => 0) rt_s0).2.2 = 0 ∨ m' 69 0 27 = 0 ∧ ¬ rt_cr (rt_rs N src pin rounds 0 (fun _ => 0) rt_s0).2.2 = 0) → Post (.inl (some (ma_I (rt_rs N src pin rounds 0 (fun _ => 0) rt_s0).1))) m') : ma_Ox LS (d + 5) mi_LatticefitModel_route [ma_Rf 69 0, ma_I rounds] M Post := by
  have N1 : N ≤ 48 := by have := Hc.2.1; omega
  have n8 := Hc.2.2.2.2.2.2.2.2.1
  rw [hN] at n8
  refine gi_LatticefitModel_route (fun R hR => s_LatticefitModel_route_0 (d := d) hR ⟨fun q => by omega, fun _ => ⟨fun q => by omega, fun _ => ⟨fun _ => ?_, fun q => absurd q h26⟩⟩⟩)
  have b1 : ∀ c : Nat, c ≠ 69 → (ma_up (ma_up (ma_up (ma_up (ma_up M 69 0 50 0) 69 0 50 0) 69 0 27 0) 69 0 28 0) 69 0 29 0) c = M c := fun c hc => by rw [ma_up_ck hc, ma_up_ck hc, ma_up_ck hc, ma_up_ck hc, ma_up_ck hc]
  have b2 : ∀ f : Int, f ≠ 27 → f ≠ 28 → f ≠ 29 → f ≠ 50 → (ma_up (ma_up (ma_up (ma_up (ma_up M 69 0 50 0) 69 0 50 0) 69 0 27 0) 69 0 28 0) 69 0 29 0) 69 0 f = M 69 0 f := fun f f1 f2 f3 f4 => by rw [ma_up_ne (fun z => f3 z.2), ma_up_ne (fun z => f2 z.2), ma_up_ne (fun z => f1 z.2), ma_up_ne (fun z => f4 z.2), ma_up_ne (fun z => f4 z.2)]
  have b3 : (ma_up (ma_up (ma_up (ma_up (ma_up M 69 0 50 0) 69 0 50 0) 69 0 27 0) 69 0 28 0) 69 0 29 0) 69 0 27 = 0 := by rw [ma_up_ne (by omega), ma_up_ne (by omega), ma_up_eq]
  have b4 : (ma_up (ma_up (ma_up (ma_up (ma_up M 69 0 50 0) 69 0 50 0) 69 0 27 0) 69 0 28 0) 69 0 29 0) 69 0 28 = 0 := by rw [ma_up_ne (by omega), ma_up_eq]
  have b5 : (ma_up (ma_up (ma_up (ma_up (ma_up M 69 0 50 0) 69 0 50 0) 69 0 27 0) 69 0 28 0) 69 0 29 0) 69 0 29 = 0 := ma_up_eq
  have b6 : (ma_up (ma_up (ma_up (ma_up (ma_up M 69 0 50 0) 69 0 50 0) 69 0 27 0) 69 0 28 0) 69 0 29 0) 69 0 50 = 0 := by rw [ma_up_ne (by omega), ma_up_ne (by omega), ma_up_ne (by omega), ma_up_eq]
  generalize ma_up (ma_up (ma_up (ma_up (ma_up M 69 0 50 0) 69 0 50 0) 69 0 27 0) 69 0 28 0) 69 0 29 0 = m0 at b1 b2 b3 b4 b5 b6 ⊢
  have hl : ∀ (l : List Nat), (∀ c ∈ l, c ≠ 69) → ∀ c ∈ l, m0 c = M c := fun l hl c hc => b1 c (hl c hc)
  have hg : ∀ (l : List Int), (∀ c ∈ l, c ≠ 27 ∧ c ≠ 28 ∧ c ≠ 29 ∧ c ≠ 50) → ∀ c ∈ l, m0 69 0 c = M 69 0 c := fun l hl c hc => b2 c (hl c hc).1 (hl c hc).2.1 (hl c hc).2.2.1 (hl c hc).2.2.2
  refine sp_findsNets (d := d + 2) (μ := m0) (fun _ _ => rfl) (rl_c_congr (hl _ (by decide)) (hg _ (by decide)) Hc) (rl_m_congr (hl _ (by decide)) (hg _ (by decide)) Hm) (rl_p_congr (hl _ (by decide)) Hp) (fun m1 c1 nets0 => k_LatticefitModel_route_50 hR ?_)
  have nets : cu_nets M m1 := cu_nets_congr (fun c hc => (b1 c (by rintro rfl; revert hc; decide)).symm) nets0
  have d1 : ∀ c : Nat, c ≠ 69 → c ≠ 92 → c ≠ 93 → m1 c = M c := fun c x1 x2 x3 => by rw [c1 c x2 x3, b1 c x1]
  have d69 : m1 69 = m0 69 := c1 69 (by decide) (by decide)
  -- the rounds
  have l109 : ∀ (k r : Nat) (p : Int → Int) (s : rt_st) (dn : Int) (m' : ma_M), r + k = rounds → rt_fx m1 m' → rt_Mr m' N s p → rt_X m' N s dn → (dn = 0 ∧ 1 ≤ k ∨ dn = N) → rt_G N src pin s dn → rt_Z N pin s → (∀ e : Int, 0 ≤ e → e < 84 → 0 ≤ p e ∧ p e ≤ 46 * (r : Int)) → m' 69 0 27 = 0 → (k = 0 → ¬ rt_cr s.2 = 0) → rt_rs N src pin k r p s = rt_rs N src pin rounds 0 (fun _ => 0) rt_s0 → ∀ u : ma_V, R 109 [ma_Rf 69 0, ma_I rounds, ma_I r, u] [] 0 m' := by
    have FIN : ∀ (r : Int) (s : rt_st) (m' : ma_M), rt_fx m1 m' → (∀ n e : Int, 0 ≤ n → n < N → 0 ≤ e → e < 84 → m' 91 0 (n * 84 + e) = rt_i (s.1 n) e) → (∀ e : Int, 0 ≤ e → e < 84 → m' 96 0 e = s.2 e) → rt_X m' N s N → (m' 69 0 27 = 1 ∧ rt_cr s.2 = 0 ∨ m' 69 0 27 = 0 ∧ ¬ rt_cr s.2 = 0) → (r, s) = rt_rs N src pin rounds 0 (fun _ => 0) rt_s0 → Post (.inl (some (ma_I r))) m' := by
      intro r s m' f g91 g96 X fl e
      have e92 : m' 92 = m1 92 := f.1 92 (by decide) (by decide) (by decide) (by decide) (by decide) (by decide) (by decide) (by decide) (by decide)
      have e93 : m' 93 = m1 93 := f.1 93 (by decide) (by decide) (by decide) (by decide) (by decide) (by decide) (by decide) (by decide) (by decide)
      have hh := h m' (fun c x1 x2 x3 x4 x5 x6 x7 x8 x9 x10 x11 => by rw [f.1 c x1 x2 x5 x6 x7 x8 x9 x10 x11]; exact d1 c x1 x3 x4) (fun g x1 x2 x3 x4 => by rw [f.2 g x1, d69]; exact b2 g x1 x2 x3 x4) ⟨by rw [f.2 28 (by decide), d69]; exact b4, by rw [f.2 29 (by decide), d69]; exact b5, by rw [f.2 50 (by decide), d69]; exact b6⟩ (by unfold cu_nets; rw [e92, e93]; exact nets)
      rw [← e] at hh
      exact hh g91 g96 X fl
    intro k
    induction k with
    | zero =>
      intro r p s dn m' hr f Mr X hd G Z hp f27 nc hf u
      have hd' : dn = N := by omega
      rw [hd'] at X
      refine s_LatticefitModel_route_109 hR ⟨fun _ => FIN r s m' f Mr.1 (fun e e0 e1 => (Mr.2 e e0 e1).1) X (.inr ⟨f27, nc rfl⟩) hf, fun q => by omega⟩
    | succ k ih =>
      intro r p s dn m' hr f Mr X hd G Z hp f27 nc hf u
      have hp' : ∀ e : Int, 0 ≤ e → e < 84 → 0 ≤ p e ∧ p e ≤ 1000 := fun e e0 e1 => by have := hp e e0 e1; omega
      have GN := rt_nets_ok (r := (r : Int) + 1) (p := p) G (by omega) N1 hs hp' (by omega) (by omega)
      have ZN := rt_nets_Z (r := (r : Int) + 1) (p := p) (src := src) Z
      have un : rt_rs N src pin (k + 1) r p s = if rt_cr (rt_nets ((r : Int) + 1) p src pin s N).2 = 0 then ((r : Int) + 1, rt_nets ((r : Int) + 1) p src pin s N) else rt_rs N src pin k ((r : Int) + 1) (rt_pr p (rt_nets ((r : Int) + 1) p src pin s N).2) (rt_nets ((r : Int) + 1) p src pin s N) := rfl
      refine s_LatticefitModel_route_109 hR ⟨fun q => by omega, fun _ => ⟨fun q => absurd f27 q, fun _ => ⟨by omega, ?_⟩⟩⟩
      -- prices
      have l162 : ∀ (i e : Nat) (m2 : ma_M), e + i = 84 → rt_fx m1 m2 → (∀ n e : Int, 0 ≤ n → n < N → 0 ≤ e → e < 84 → m2 91 0 (n * 84 + e) = rt_i ((rt_nets ((r : Int) + 1) p src pin s N).1 n) e) → (∀ e : Int, 0 ≤ e → e < 84 → m2 96 0 e = (rt_nets ((r : Int) + 1) p src pin s N).2 e) → rt_X m2 N (rt_nets ((r : Int) + 1) p src pin s N) N → (∀ j : Int, 0 ≤ j → j < 84 → m2 97 0 j = if j < e then rt_pr p (rt_nets ((r : Int) + 1) p src pin s N).2 j else p j) → (m2 69 0 27 = 1 ∧ (∀ j : Int, 0 ≤ j → j < e → (rt_nets ((r : Int) + 1) p src pin s N).2 j ≤ 2) ∨ m2 69 0 27 = 0 ∧ ∃ j : Int, 0 ≤ j ∧ j < 84 ∧ 2 < (rt_nets ((r : Int) + 1) p src pin s N).2 j) → R 162 [ma_Rf 69 0, ma_I rounds, ma_I ((r : Int) + 1), ma_I e] [] 0 m2 := by
        intro i
        have GG : rt_G N src pin (rt_nets ((r : Int) + 1) p src pin s N) N := by
          have := GN N (Nat.le_refl N)
          by_cases e : dn = 0
          · rw [if_pos e] at this; exact this
          · rw [if_neg e] at this; rw [show (N : Int) = dn from by omega]; exact this
        have GZ := ZN N
        generalize rt_nets ((r : Int) + 1) p src pin s N = s1 at un GG GZ ⊢
        induction i with
        | zero =>
          intro e m2 he f2 g91 g96 X2 g97 fl
          have e84 : e = 84 := by omega
          subst e84
          refine s_LatticefitModel_route_162 hR ⟨fun _ => ?_, fun q => by omega⟩
          by_cases c : rt_cr s1.2 = 0
          · rw [if_pos c] at un
            rw [un] at hf
            have fl1 : m2 69 0 27 = 1 := by
              rcases fl with z | z
              · exact z.1
              · obtain ⟨-, j, j0, j1, j2⟩ := z
                have := rt_cr_0.1 c j j0 j1; omega
            have P := FIN _ s1 m2 f2 g91 g96 X2 (.inl ⟨fl1, c⟩) hf
            exact s_LatticefitModel_route_109 hR ⟨fun _ => P, fun _ => ⟨fun _ => P, fun z => by omega⟩⟩
          · rw [if_neg c] at un
            have fl0 : m2 69 0 27 = 0 := by
              rcases fl with z | z
              · exact absurd (rt_cr_0.2 (fun e e0 e1 => z.2 e e0 (by omega))) c
              · exact z.1
            have nx := ih (r + 1) (rt_pr p s1.2) s1 N m2 (by omega) f2 ⟨g91, fun e e0 e1 => ⟨g96 e e0 e1, by rw [g97 e e0 e1, if_pos (by omega)]⟩⟩ X2 (.inr rfl) GG GZ (fun e e0 e1 => by
              have a := hp e e0 e1
              have b := rt_G_u GG N1 e0 e1
              unfold rt_pr
              split <;> omega) fl0 (fun _ => c) (by rw [← hf, un]; rfl) ma_U
            exact nx
        | succ i ihi =>
          intro e m2 he f2 g91 g96 X2 g97 fl
          have pe := hp' e (by omega) (by omega)
          have ue := rt_G_u GG N1 (e := e) (by omega) (by omega)
          have rg : 0 ≤ (if 0 < s1.2 e - 2 then s1.2 e - 2 else 0) ∧ (if 0 < s1.2 e - 2 then s1.2 e - 2 else 0) ≤ 46 := by split <;> omega
          refine s_LatticefitModel_route_162 hR ⟨fun q => by omega, fun _ => ?_⟩
          rw [g96 e (by omega) (by omega), g97 e (by omega) (by omega), if_neg (by omega)]
          have nx : ∀ v : Int, (v = 1 ∧ (∀ j : Int, 0 ≤ j → j < ((e + 1 : Nat) : Int) → s1.2 j ≤ 2) ∨ v = 0 ∧ ∃ j : Int, 0 ≤ j ∧ j < 84 ∧ 2 < s1.2 j) → R 162 [ma_Rf 69 0, ma_I rounds, ma_I ((r : Int) + 1), ma_I ((e : Int) + 1)] [] 0 (ma_up (ma_up m2 97 0 e (p e + (if 0 < s1.2 e - 2 then s1.2 e - 2 else 0))) 69 0 27 v) := fun v hv => ihi (e + 1) _ (by omega) ⟨fun c x1 x2 x3 x4 x5 x6 x7 x8 x9 => by rw [ma_up_ck x1, ma_up_ck x6]; exact f2.1 c x1 x2 x3 x4 x5 x6 x7 x8 x9, fun g hg => by rw [ma_up_ne (fun z => hg z.2), ma_up_ck (by decide)]; exact f2.2 g hg⟩ (fun n e a b c d => by rw [ma_up_ck (by decide), ma_up_ck (by decide)]; exact g91 n e a b c d) (fun e a b => by rw [ma_up_ck (by decide), ma_up_ck (by decide)]; exact g96 e a b) (fun n x a b c d e g => by
            rw [ma_up_ck (by decide), ma_up_ck (by decide)] at d ⊢; exact X2 n x a b c d e g) (fun j j0 j1 => by
            rw [ma_up_ck (by decide)]
            by_cases q : j = e
            · rw [q, ma_up_eq, if_pos (show (e : Int) < ((e + 1 : Nat) : Int) from by omega)]; rfl
            · rw [ma_up_ne (fun z => q z.2), g97 j j0 j1]
              by_cases w : j < e
              · rw [if_pos w, if_pos (by omega)]
              · rw [if_neg w, if_neg (by omega)]) (by rw [ma_up_eq]; exact hv)
          refine ⟨by omega, by omega, by omega, fun q => ?_, fun q => ?_⟩
          · rcases fl with z | z
            · rw [z.1, rt_band.2.1]; exact ⟨.inl rfl, by omega, nx 0 (.inr ⟨rfl, e, by omega, by omega, q⟩)⟩
            · rw [z.1, rt_band.2.2.2]; exact ⟨.inl rfl, by omega, nx 0 (.inr ⟨rfl, z.2⟩)⟩
          · rcases fl with z | z
            · rw [z.1, rt_band.1]
              refine ⟨.inr rfl, by omega, nx 1 (.inl ⟨rfl, fun j j0 j1 => ?_⟩)⟩
              by_cases w : j = e
              · rw [w]; exact q
              · exact z.2 j j0 (by omega)
            · rw [z.1, rt_band.2.2.1]; exact ⟨.inl rfl, by omega, nx 0 (.inr ⟨rfl, z.2⟩)⟩
      -- the nets
      have l126 : ∀ (j n : Nat) (m2 : ma_M), n + j = N → rt_fx m1 m2 → rt_Mr m2 N (rt_nets ((r : Int) + 1) p src pin s n) p → rt_X m2 N (rt_nets ((r : Int) + 1) p src pin s n) (if dn = 0 then n else dn) → R 126 [ma_Rf 69 0, ma_I rounds, ma_I ((r : Int) + 1), ma_I n] [] 0 m2 := by
        intro j
        induction j with
        | zero =>
          intro n m2 hn f2 M2 X2
          have e : n = N := by omega
          subst e
          have X3 : rt_X m2 n (rt_nets ((r : Int) + 1) p src pin s n) n := by
            by_cases e : dn = 0
            · rw [if_pos e] at X2; exact X2
            · rw [if_neg e] at X2; rw [show dn = (n : Int) from by omega] at X2; exact X2
          refine s_LatticefitModel_route_126 hR ⟨fun _ => l162 84 0 _ (by omega) ⟨fun c x1 x2 x3 x4 x5 x6 x7 x8 x9 => by rw [ma_up_ck x1]; exact f2.1 c x1 x2 x3 x4 x5 x6 x7 x8 x9, fun g hg => by rw [ma_up_ne (fun z => hg z.2)]; exact f2.2 g hg⟩ (fun n e a b c d => by rw [ma_up_ck (by decide)]; exact M2.1 n e a b c d) (fun e a b => by rw [ma_up_ck (by decide)]; exact (M2.2 e a b).1) (fun n x a b c d e g => by rw [ma_up_ck (by decide)] at d ⊢; exact X3 n x a b c d e g) (fun j j0 j1 => by rw [ma_up_ck (by decide), if_neg (by omega)]; exact (M2.2 j j0 j1).2) (.inl ⟨ma_up_eq, fun j a b => by omega⟩), fun q => ?_⟩
          rw [f2.2 8 (by decide), d69, b2 8 (by decide) (by decide) (by decide) (by decide), n8] at q; omega
        | succ j ihj =>
          intro n m2 hn f2 M2 X2
          have Gn := GN n (by omega)
          have nN : (n : Int) < N := by omega
          have e92 : m2 92 = m1 92 := f2.1 92 (by decide) (by decide) (by decide) (by decide) (by decide) (by decide) (by decide) (by decide) (by decide)
          have e93 : m2 93 = m1 93 := f2.1 93 (by decide) (by decide) (by decide) (by decide) (by decide) (by decide) (by decide) (by decide) (by decide)
          have nt := nets n (by omega) (by omega)
          have row : ∀ k x : Int, (rt_nets ((r : Int) + 1) p src pin s (n + 1)).1 k x = (if k = (n : Int) then rt_lay (rt_t (rt_U (rt_nets ((r : Int) + 1) p src pin s n) n) p ((r : Int) + 1)) (src n) (pin n) 49 else (rt_nets ((r : Int) + 1) p src pin s n).1 k) x := fun _ _ => rfl
          have rowf : ∀ k : Int, (rt_nets ((r : Int) + 1) p src pin s (n + 1)).1 k = (if k = (n : Int) then rt_lay (rt_t (rt_U (rt_nets ((r : Int) + 1) p src pin s n) n) p ((r : Int) + 1)) (src n) (pin n) 49 else (rt_nets ((r : Int) + 1) p src pin s n).1 k) := fun _ => rfl
          have use : ∀ e : Int, (rt_nets ((r : Int) + 1) p src pin s (n + 1)).2 e = rt_U (rt_nets ((r : Int) + 1) p src pin s n) n e + rt_i (rt_lay (rt_t (rt_U (rt_nets ((r : Int) + 1) p src pin s n) n) p ((r : Int) + 1)) (src n) (pin n) 49) e := fun _ => rfl
          have Zn := ZN n
          have Un : ∀ e : Int, rt_U (rt_nets ((r : Int) + 1) p src pin s n) n e = (rt_nets ((r : Int) + 1) p src pin s n).2 e - rt_i ((rt_nets ((r : Int) + 1) p src pin s n).1 n) e := fun _ => rfl
          have gU := fun (e : Int) (e0 : 0 ≤ e) (e1 : e < 84) => rt_G_u Gn N1 e0 e1
          have dd : ∀ k : Int, k < (if dn = 0 then ((n + 1 : Nat) : Int) else dn) → ¬ k = n → k < (if dn = 0 then (n : Int) else dn) := fun k a b => by
            by_cases e : dn = 0
            · rw [if_pos e] at a ⊢; omega
            · rw [if_neg e] at a ⊢; exact a
          refine s_LatticefitModel_route_126 hR ⟨fun q => by rw [f2.2 8 (by decide), d69, b2 8 (by decide) (by decide) (by decide) (by decide), n8] at q; omega, fun _ => ⟨by omega, fun q => ⟨by omega, ?_⟩, fun q => ?_⟩⟩
          · -- not a net
            rw [e92] at q
            have nop : ∀ x : Int, 0 ≤ x → x < 49 → pin n x = 0 := fun x x0 x1 => by
              apply Classical.byContradiction
              intro w
              have := nt.1.2.2 ⟨x, (hpin n x (by omega) nN x0 x1).1 w⟩
              omega
            have lay := rt_lay_no (t := rt_t (rt_U (rt_nets ((r : Int) + 1) p src pin s n) n) p ((r : Int) + 1)) (src := src n) 49 (fun y y0 y1 => nop y y0 y1)
            have old := Zn n (by omega) nN nop
            refine ihj (n + 1) m2 (by omega) f2 ⟨fun k e k0 k1 e0 e1 => ?_, fun e e0 e1 => ⟨?_, (M2.2 e e0 e1).2⟩⟩ (fun k x a b c d x0 x1 => ?_)
            · rw [rowf, M2.1 k e k0 k1 e0 e1]
              by_cases w : k = n
              · rw [if_pos w, lay, w, rt_i_no e0 e1 old, rt_i_no e0 e1 (fun _ _ _ => rfl)]
              · rw [if_neg w]
            · rw [use, lay, rt_i_no e0 e1 (fun _ _ _ => rfl), Un, rt_i_no e0 e1 old, (M2.2 e e0 e1).1]; omega
            · have w : ¬ k = n := fun z => by rw [z, e92] at d; omega
              rw [row, if_neg w]
              exact X2 k x a b (dd k c w) d x0 x1
          · -- a net
            rw [e92] at q
            have one : m1 92 0 n = 1 := by rcases nt.1.1 with z | z; exact absurd z q; exact z
            obtain ⟨px, hpx⟩ := nt.1.2.1 one
            have hk := cu_pin_node Hm hpx
            refine sp_gives (d := d) (pin := pin n) (b0 := (rt_nets ((r : Int) + 1) p src pin s n).1 n) (u := (rt_nets ((r : Int) + 1) p src pin s n).2) Hc Hm Hp ⟨?_, ?_, ?_, ?_⟩ (by omega) (by omega) hk (hsrc n (by omega) nN hk) (fun e e0 e1 => M2.1 n e (by omega) nN e0 e1) M2.2 (fun x x0 x1 => ?_) (fun e e0 e1 => ⟨(gU e e0 e1).1, (gU e e0 e1).2.1⟩) (fun e e0 e1 => (gU e e0 e1).2.2 n (by omega) nN) hp' (by omega) (by omega) (fun m3 f3 g95 g91 => k_LatticefitModel_route_146 hR ⟨by omega, ihj (n + 1) m3 (by omega) ?_ ⟨fun k e k0 k1 e0 e1 => ?_, fun e e0 e1 => ⟨?_, ?_⟩⟩ (fun k x a b c d x0 x1 => ?_)⟩)
            · rw [f2.1 70 (by decide) (by decide) (by decide) (by decide) (by decide) (by decide) (by decide) (by decide) (by decide)]; exact d1 70 (by decide) (by decide) (by decide)
            · rw [f2.1 81 (by decide) (by decide) (by decide) (by decide) (by decide) (by decide) (by decide) (by decide) (by decide)]; exact d1 81 (by decide) (by decide) (by decide)
            · rw [f2.1 85 (by decide) (by decide) (by decide) (by decide) (by decide) (by decide) (by decide) (by decide) (by decide)]; exact d1 85 (by decide) (by decide) (by decide)
            · rw [f2.1 75 (by decide) (by decide) (by decide) (by decide) (by decide) (by decide) (by decide) (by decide) (by decide)]; exact d1 75 (by decide) (by decide) (by decide)
            · rw [e93]
              have w := nt.2 x x0 x1
              rw [hpin n x (by omega) nN x0 x1, ← w.2]; omega
            · exact ⟨fun c x1 x2 x3 x4 x5 x6 x7 x8 x9 => by rw [f3.1 c x2 x3 x4 x5 x7 x8 x9]; exact f2.1 c x1 x2 x3 x4 x5 x6 x7 x8 x9, fun g hg => by rw [f3.1 69 (by decide) (by decide) (by decide) (by decide) (by decide) (by decide) (by decide)]; exact f2.2 g hg⟩
            · rw [rowf]
              by_cases w : k = n
              · rw [if_pos w, w]; exact (g91 e e0 e1).1
              · rw [if_neg w, f3.2.1 _ (by omega)]; exact M2.1 k e k0 k1 e0 e1
            · rw [use]; exact (g91 e e0 e1).2
            · rw [f3.1 97 (by decide) (by decide) (by decide) (by decide) (by decide) (by decide) (by decide)]; exact (M2.2 e e0 e1).2
            · rw [row]
              by_cases w : k = n
              · rw [if_pos w, w]; exact g95 x x0 x1
              · rw [if_neg w, f3.2.2 _ (by omega)]
                rw [f3.1 92 (by decide) (by decide) (by decide) (by decide) (by decide) (by decide) (by decide)] at d
                exact X2 k x a b (dd k c w) d x0 x1
      exact l126 N 0 m' (by omega) f Mr (by
        by_cases e : dn = 0
        · rw [if_pos e]; rw [e] at X; exact X
        · rw [if_neg e]; exact X)
  -- all nought
  have l55 : ∀ (k e : Nat) (m' : ma_M), e + k = 84 → rt_fx m1 m' → m' 69 = m1 69 → (∀ j : Int, 0 ≤ j → j < e → m' 96 0 j = 0 ∧ m' 97 0 j = 0 ∧ ∀ n : Int, 0 ≤ n → n < 48 → m' 91 0 (n * 84 + j) = 0) → ∀ u : ma_V, R 55 [ma_Rf 69 0, ma_I rounds, ma_I e, u] [] 0 m' := by
    intro k
    induction k with
    | zero =>
      intro e m' he f f69 g u
      refine s_LatticefitModel_route_55 hR ⟨fun _ => ?_, fun q => by omega⟩
      exact l109 rounds 0 (fun _ => 0) rt_s0 0 m' (by omega) f ⟨fun n e n0 n1 e0 e1 => by rw [(g e e0 (by omega)).2.2 n n0 (by omega), show rt_i (rt_s0.1 n) e = 0 from rt_i_no e0 e1 (fun _ _ _ => rfl)], fun e e0 e1 => ⟨(g e e0 (by omega)).1, (g e e0 (by omega)).2.1⟩⟩ (fun n x a b c => by omega) (.inl ⟨rfl, a0⟩) rt_G0 (fun _ _ _ _ _ _ _ => rfl) (fun e _ _ => by show (0 : Int) ≤ 0 ∧ (0 : Int) ≤ 46 * ((0 : Nat) : Int); omega) (by rw [f69, d69]; exact b3) (fun z => by omega) rfl _
    | succ k ih =>
      intro e m' he f f69 g u
      have l77 : ∀ (j n : Nat) (m2 : ma_M), n + j = 48 → rt_fx m1 m2 → m2 69 = m1 69 → (∀ i : Int, 0 ≤ i → i ≤ e → m2 96 0 i = 0 ∧ m2 97 0 i = 0 ∧ ∀ n' : Int, 0 ≤ n' → n' < 48 → (i < e ∨ n' < n) → m2 91 0 (n' * 84 + i) = 0) → R 77 [ma_Rf 69 0, ma_I rounds, ma_I e, ma_I n] [] 0 m2 := by
        intro j
        induction j with
        | zero =>
          intro n m2 hn f2 f69' g2
          exact s_LatticefitModel_route_77 hR ⟨fun _ => ⟨by omega, ih (e + 1) m2 (by omega) f2 f69' (fun i i0 i1 => by
            have a := g2 i i0 (by omega)
            exact ⟨a.1, a.2.1, fun n' x y => a.2.2 n' x y (.inr (by omega))⟩) _⟩, fun q => by omega⟩
        | succ j ihj =>
          intro n m2 hn f2 f69' g2
          refine s_LatticefitModel_route_77 hR ⟨fun q => by omega, fun _ => ⟨by omega, by omega, by omega, by omega, ihj (n + 1) _ (by omega) ⟨fun c x1 x2 x3 x4 x5 x6 x7 x8 x9 => by rw [ma_up_ck x2]; exact f2.1 c x1 x2 x3 x4 x5 x6 x7 x8 x9, fun g hg => by rw [ma_up_ck (by decide)]; exact f2.2 g hg⟩ (by rw [ma_up_ck (by decide)]; exact f69') (fun i i0 i1 => ?_)⟩⟩
          have a := g2 i i0 i1
          refine ⟨by rw [ma_up_ck (by decide)]; exact a.1, by rw [ma_up_ck (by decide)]; exact a.2.1, fun n' x y z => ?_⟩
          by_cases w : n' = n ∧ i = e
          · rw [w.1, w.2, ma_up_eq]
          · rw [ma_up_ne (by omega)]; exact a.2.2 n' x y (by omega)
      refine s_LatticefitModel_route_55 hR ⟨fun q => by omega, fun _ => ⟨by omega, l77 48 0 _ (by omega) ⟨fun c x1 x2 x3 x4 x5 x6 x7 x8 x9 => by rw [ma_up_ck x6, ma_up_ck x5]; exact f.1 c x1 x2 x3 x4 x5 x6 x7 x8 x9, fun g hg => by rw [ma_up_ck (by decide), ma_up_ck (by decide)]; exact f.2 g hg⟩ (by rw [ma_up_ck (by decide), ma_up_ck (by decide)]; exact f69) (fun i i0 i1 => ?_)⟩⟩
      rw [ma_up_ck (k' := 96) (by decide), rt_mup, rt_mup, ma_up_ck (k' := 97) (by decide), ma_up_ck (k' := 91) (by decide), ma_up_ck (k' := 91) (by decide)]
      unfold bd_up
      by_cases q : i = e
      · rw [if_pos q, if_pos q]; exact ⟨rfl, rfl, fun n' x y z => by omega⟩
      · rw [if_neg q, if_neg q]
        have a := g i i0 (by omega)
        exact ⟨a.1, a.2.1, fun n' x y _ => a.2.2 n' x y⟩
  exact l55 84 0 m1 (by omega) ⟨fun _ _ _ _ _ _ _ _ _ _ => rfl, fun _ _ => rfl⟩ rfl (fun j a b => by omega) _
