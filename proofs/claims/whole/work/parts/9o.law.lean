/-! the law: every case of its loop, and the loop -/
theorem fo_n64 {r : UInt64} (h : vf_n64 r) : Op.cmpValue (FP.dcmp r r) .l = 0 := by
  have e : (r &&& 0x7fffffffffffffff).toNat = r.toNat % 2 ^ 63 := by
    rw [UInt64.toNat_and]
    exact Nat.and_two_pow_sub_one_eq_mod r.toNat 63
  have h2 : r.toNat % 2 ^ 63 ≤ 9218868437227405312 := by
    have := UInt64.le_iff_toNat_le.mp h
    rw [e] at this
    exact this
  have key : FP.dcmp r r = some .eq := by
    unfold FP.dcmp FP.Core.dcmp FP.Core.cmp
    have nn : FP.Core.decode FP.Core.b64 r.toNat ≠ .nan := by
      unfold FP.Core.decode
      intro z
      split at z
      · split at z
        · cases z
        · rename_i a b
          have a' : r.toNat / 2 ^ 52 % 2 ^ 11 = 2047 := a
          have b' : ¬ r.toNat % 2 ^ 52 = 0 := b
          omega
      · split at z <;> cases z
    generalize FP.Core.decode FP.Core.b64 r.toNat = d at nn ⊢
    have cs : ∀ a : Int, compare a a = .eq := fun a => by
      show compareOfLessAndEq a a = .eq
      unfold compareOfLessAndEq
      rw [if_neg (by omega), if_pos rfl]
    cases d with
    | nan => exact absurd rfl nn
    | inf s => show some (compare _ _) = _; rw [cs]
    | fin s c q => show some (compare _ _) = _; rw [cs]
  rw [key]; rfl
/-- the law's end: true, within its room -/
def law_D (W9 : Nat) : ma_Dn := fun r k _ => r = .inl (some (ma_I 1)) ∧ k ≤ W9
theorem law_I {n : Nat} {v : ma_V} (h : ma_kd n (some v)) (hn : n = 1 ∨ n = 2 ∨ n = 3) : ∃ b, v = ma_I b := by
  rcases h with z | z | z | z | z
  · cases z.1
  · obtain ⟨b, e, -⟩ := z; cases e; exact ⟨b, rfl⟩
  · obtain ⟨b, e, w⟩ := z; omega
  · obtain ⟨b, e, w⟩ := z; omega
  · obtain ⟨b, e, w⟩ := z; omega
theorem law_L {n : Nat} {v : ma_V} (h : ma_kd n (some v)) (hn : n = 4) : ∃ b, v = ma_L b := by
  rcases h with z | z | z | z | z
  · cases z.1
  · obtain ⟨b, e, w⟩ := z; unfold ma_resI at w; omega
  · obtain ⟨b, e, -⟩ := z; cases e; exact ⟨b, rfl⟩
  · obtain ⟨b, e, w⟩ := z; omega
  · obtain ⟨b, e, w⟩ := z; omega
theorem law_F {n : Nat} {v : ma_V} (h : ma_kd n (some v)) (hn : n = 5) : ∃ b, v = ma_F b := by
  rcases h with z | z | z | z | z
  · cases z.1
  · obtain ⟨b, e, w⟩ := z; unfold ma_resI at w; omega
  · obtain ⟨b, e, w⟩ := z; omega
  · obtain ⟨b, e, -⟩ := z; cases e; exact ⟨b, rfl⟩
  · obtain ⟨b, e, w⟩ := z; omega
theorem law_Dd {n : Nat} {v : ma_V} (h : ma_kd n (some v)) (hn : n = 6) : ∃ b, v = ma_D b := by
  rcases h with z | z | z | z | z
  · cases z.1
  · obtain ⟨b, e, w⟩ := z; unfold ma_resI at w; omega
  · obtain ⟨b, e, w⟩ := z; omega
  · obtain ⟨b, e, w⟩ := z; omega
  · obtain ⟨b, e, -⟩ := z; cases e; exact ⟨b, rfl⟩
theorem law_224 {LS W9 d : Nat} {R : ma_J} {μ : ma_M} {i : Int} {k : Nat} (hR : ma_cl (ma_Ox LS (d + 150 + 12)) (LS, [], 2, W9) (ma_at mb_law) (law_D W9) R) (H : Rel μ) (i0 : 0 ≤ i) (i1 : i + 4 ≤ LS) (hL : LS ≤ 2048) (hk : k + 3 ≤ W9) (NX : ∀ (k' : Nat) (μ' : ma_M), Rel μ' → k' ≤ k + 3 → ∀ u6 u7 u8 : ma_V, R 2595 [ma_Rf 0 0, ma_Rf 2 0, ma_Rf 69 0, ma_Rf 111 0, ma_Rf 112 0, ma_I i, u6, u7, u8] [] k' μ') : ∀ u6 u7 u8 : ma_V, R 224 [ma_Rf 0 0, ma_Rf 2 0, ma_Rf 69 0, ma_Rf 111 0, ma_Rf 112 0, ma_I i, u6, u7, u8] [] k μ := by
  intro u6 u7 u8
  refine g_law_224 hR ⟨by omega, Pr_kd (pr_addInput (d := d + 150) H) (fun kk μ1 e1 h2 => c_law_226 ?_)⟩
  refine ⟨by omega, h2 _ (fun v μ2 e2 hkd H2 ek ag => ?_)⟩
  obtain ⟨b, rfl⟩ := law_I hkd (by decide +kernel)
  refine c_law_232 ⟨by omega, w_LatticefitModel_thrown (d := d + 161) (c_law_238 ⟨fun _ => ?_, fun z => absurd ek z⟩)⟩
  refine g_law_248 hR ⟨fun _ => g_law_265 hR (NX _ _ H2 (by omega) _ _ _), fun z => ⟨fun _ => g_law_265 hR (NX _ _ H2 (by omega) _ _ _), fun w => ?_⟩⟩
  obtain ⟨b', e, q⟩ := ag z
  cases e
  exact absurd q w
theorem law_268 {LS W9 d : Nat} {R : ma_J} {μ : ma_M} {i : Int} {k : Nat} (hR : ma_cl (ma_Ox LS (d + 150 + 12)) (LS, [], 2, W9) (ma_at mb_law) (law_D W9) R) (H : Rel μ) (i0 : 0 ≤ i) (i1 : i + 4 ≤ LS) (hL : LS ≤ 2048) (hk : k + 3 ≤ W9) (NX : ∀ (k' : Nat) (μ' : ma_M), Rel μ' → k' ≤ k + 3 → ∀ u6 u7 u8 : ma_V, R 2595 [ma_Rf 0 0, ma_Rf 2 0, ma_Rf 69 0, ma_Rf 111 0, ma_Rf 112 0, ma_I i, u6, u7, u8] [] k' μ') : ∀ u6 u7 u8 : ma_V, R 268 [ma_Rf 0 0, ma_Rf 2 0, ma_Rf 69 0, ma_Rf 111 0, ma_Rf 112 0, ma_I i, u6, u7, u8] [] k μ := by
  intro u6 u7 u8
  have key : ∀ s : Int, (μ 0 0 (i + 1) = 0 ∧ s = 0 ∨ ¬ μ 0 0 (i + 1) = 0 ∧ s = 1) → R 283 [ma_Rf 0 0, ma_Rf 2 0, ma_Rf 69 0, ma_Rf 111 0, ma_Rf 112 0, ma_I i, ma_U, ma_U, ma_U] [ma_I s, ma_Rf 2 0] k μ := by
    intro s hs
    refine g_law_283 hR ⟨by omega, by omega, fun p1 => ⟨by omega, Pr_kd (pr_addRegister (d := d + 150) H (by omega)) (fun kk μ1 e1 h2 => c_law_290 ?_)⟩⟩
    rw [e1]
    have key2 : R 310 [ma_Rf 0 0, ma_Rf 2 0, ma_Rf 69 0, ma_Rf 111 0, ma_Rf 112 0, ma_I i, ma_I kk, ma_U, ma_U] [ma_I s, ma_Rf 69 0] (k + 1) μ1 := by
      refine g_law_310 hR ?_
      rw [e1]
      refine ⟨by omega, by omega, fun p1 => ⟨by omega, h2 _ (fun v μ2 e2 hkd H2 ek ag => ?_)⟩⟩
      obtain ⟨b, rfl⟩ := law_I hkd (by decide +kernel)
      refine c_law_316 ⟨by omega, w_LatticefitModel_thrown (d := d + 161) (c_law_322 ⟨fun _ => ?_, fun z => absurd ek z⟩)⟩
      refine g_law_332 hR ⟨fun _ => g_law_349 hR (NX _ _ H2 (by omega) _ _ _), fun z => ⟨fun _ => g_law_349 hR (NX _ _ H2 (by omega) _ _ _), fun w => ?_⟩⟩
      obtain ⟨b', e, q⟩ := ag z
      cases e
      exact absurd q w
    refine ⟨by omega, by omega, fun p2 => ⟨fun z => g_law_309 hR ?_, fun z => ?_⟩⟩
    · rcases hs with w | w
      · rw [w.2] at key2; exact key2
      · exact absurd z w.1
    · rcases hs with w | w
      · exact absurd w.1 z
      · rw [w.2] at key2; exact key2
  exact g_law_268 hR ⟨by omega, by omega, fun p1 => ⟨fun z => g_law_282 hR (key 0 (.inl ⟨z, rfl⟩)), fun z => key 1 (.inr ⟨z, rfl⟩)⟩⟩
theorem law_352 {LS W9 d : Nat} {R : ma_J} {μ : ma_M} {i : Int} {k : Nat} (hR : ma_cl (ma_Ox LS (d + 150 + 12)) (LS, [], 2, W9) (ma_at mb_law) (law_D W9) R) (H : Rel μ) (i0 : 0 ≤ i) (i1 : i + 4 ≤ LS) (hL : LS ≤ 2048) (hk : k + 3 ≤ W9) (NX : ∀ (k' : Nat) (μ' : ma_M), Rel μ' → k' ≤ k + 3 → ∀ u6 u7 u8 : ma_V, R 2595 [ma_Rf 0 0, ma_Rf 2 0, ma_Rf 69 0, ma_Rf 111 0, ma_Rf 112 0, ma_I i, u6, u7, u8] [] k' μ') : ∀ u6 u7 u8 : ma_V, R 352 [ma_Rf 0 0, ma_Rf 2 0, ma_Rf 69 0, ma_Rf 111 0, ma_Rf 112 0, ma_I i, u6, u7, u8] [] k μ := by
  intro u6 u7 u8
  refine g_law_352 hR ⟨by omega, by omega, fun p3 => ⟨by omega, by omega, fun p2 => ⟨by omega, by omega, fun p1 => ⟨by omega, Pr_kd (pr_addGate (d := d + 150) H) (fun kk μ1 e1 h2 => c_law_373 ?_)⟩⟩⟩⟩
  rw [e1]
  refine ⟨by omega, by omega, fun p3 => ⟨by omega, by omega, fun p2 => ⟨by omega, by omega, fun p1 => ⟨by omega, h2 _ (fun v μ2 e2 hkd H2 ek ag => ?_)⟩⟩⟩⟩
  obtain ⟨b, rfl⟩ := law_I hkd (by decide +kernel)
  refine c_law_398 ⟨by omega, w_LatticefitModel_thrown (d := d + 161) (c_law_404 ⟨fun _ => ?_, fun z => absurd ek z⟩)⟩
  refine g_law_414 hR ⟨fun _ => g_law_431 hR (NX _ _ H2 (by omega) _ _ _), fun z => ⟨fun _ => g_law_431 hR (NX _ _ H2 (by omega) _ _ _), fun w => ?_⟩⟩
  obtain ⟨b', e, q⟩ := ag z
  cases e
  exact absurd q w
theorem law_434 {LS W9 d : Nat} {R : ma_J} {μ : ma_M} {i : Int} {k : Nat} (hR : ma_cl (ma_Ox LS (d + 150 + 12)) (LS, [], 2, W9) (ma_at mb_law) (law_D W9) R) (H : Rel μ) (i0 : 0 ≤ i) (i1 : i + 4 ≤ LS) (hL : LS ≤ 2048) (hk : k + 3 ≤ W9) (NX : ∀ (k' : Nat) (μ' : ma_M), Rel μ' → k' ≤ k + 3 → ∀ u6 u7 u8 : ma_V, R 2595 [ma_Rf 0 0, ma_Rf 2 0, ma_Rf 69 0, ma_Rf 111 0, ma_Rf 112 0, ma_I i, u6, u7, u8] [] k' μ') : ∀ u6 u7 u8 : ma_V, R 434 [ma_Rf 0 0, ma_Rf 2 0, ma_Rf 69 0, ma_Rf 111 0, ma_Rf 112 0, ma_I i, u6, u7, u8] [] k μ := by
  intro u6 u7 u8
  refine g_law_434 hR ⟨by omega, by omega, fun p2 => ⟨by omega, by omega, fun p1 => ⟨by omega, Pr_kd (pr_feed (d := d + 150) H) (fun kk μ1 e1 h2 => c_law_448 ?_)⟩⟩⟩
  rw [e1]
  refine ⟨by omega, by omega, fun p2 => ⟨by omega, by omega, fun p1 => ⟨by omega, h2 _ (fun v μ2 e2 hkd H2 ek ag => ?_)⟩⟩⟩
  obtain ⟨b, rfl⟩ := law_I hkd (by decide +kernel)
  refine c_law_466 ⟨by omega, w_LatticefitModel_thrown (d := d + 161) (c_law_472 ⟨fun _ => ?_, fun z => absurd ek z⟩)⟩
  refine g_law_482 hR ⟨fun _ => g_law_499 hR (NX _ _ H2 (by omega) _ _ _), fun z => ⟨fun _ => g_law_499 hR (NX _ _ H2 (by omega) _ _ _), fun w => ?_⟩⟩
  obtain ⟨b', e, q⟩ := ag z
  cases e
  exact absurd q w
theorem law_502 {LS W9 d : Nat} {R : ma_J} {μ : ma_M} {i : Int} {k : Nat} (hR : ma_cl (ma_Ox LS (d + 150 + 12)) (LS, [], 2, W9) (ma_at mb_law) (law_D W9) R) (H : Rel μ) (i0 : 0 ≤ i) (i1 : i + 4 ≤ LS) (hL : LS ≤ 2048) (hk : k + 3 ≤ W9) (NX : ∀ (k' : Nat) (μ' : ma_M), Rel μ' → k' ≤ k + 3 → ∀ u6 u7 u8 : ma_V, R 2595 [ma_Rf 0 0, ma_Rf 2 0, ma_Rf 69 0, ma_Rf 111 0, ma_Rf 112 0, ma_I i, u6, u7, u8] [] k' μ') : ∀ u6 u7 u8 : ma_V, R 502 [ma_Rf 0 0, ma_Rf 2 0, ma_Rf 69 0, ma_Rf 111 0, ma_Rf 112 0, ma_I i, u6, u7, u8] [] k μ := by
  intro u6 u7 u8
  refine g_law_502 hR ⟨by omega, by omega, fun p1 => ⟨by omega, Pr_kd (pr_addOutput (d := d + 150) H) (fun kk μ1 e1 h2 => c_law_510 ?_)⟩⟩
  rw [e1]
  refine ⟨by omega, by omega, fun p1 => ⟨by omega, h2 _ (fun v μ2 e2 hkd H2 ek ag => ?_)⟩⟩
  obtain ⟨b, rfl⟩ := law_I hkd (by decide +kernel)
  refine c_law_522 ⟨by omega, w_LatticefitModel_thrown (d := d + 161) (c_law_528 ⟨fun _ => ?_, fun z => absurd ek z⟩)⟩
  refine g_law_538 hR ⟨fun _ => g_law_555 hR (NX _ _ H2 (by omega) _ _ _), fun z => ⟨fun _ => g_law_555 hR (NX _ _ H2 (by omega) _ _ _), fun w => ?_⟩⟩
  obtain ⟨b', e, q⟩ := ag z
  cases e
  exact absurd q w
theorem law_558 {LS W9 d : Nat} {R : ma_J} {μ : ma_M} {i : Int} {k : Nat} (hR : ma_cl (ma_Ox LS (d + 150 + 12)) (LS, [], 2, W9) (ma_at mb_law) (law_D W9) R) (H : Rel μ) (i0 : 0 ≤ i) (i1 : i + 4 ≤ LS) (hL : LS ≤ 2048) (hk : k + 3 ≤ W9) (NX : ∀ (k' : Nat) (μ' : ma_M), Rel μ' → k' ≤ k + 3 → ∀ u6 u7 u8 : ma_V, R 2595 [ma_Rf 0 0, ma_Rf 2 0, ma_Rf 69 0, ma_Rf 111 0, ma_Rf 112 0, ma_I i, u6, u7, u8] [] k' μ') : ∀ u6 u7 u8 : ma_V, R 558 [ma_Rf 0 0, ma_Rf 2 0, ma_Rf 69 0, ma_Rf 111 0, ma_Rf 112 0, ma_I i, u6, u7, u8] [] k μ := by
  intro u6 u7 u8
  refine g_law_558 hR ⟨by omega, by omega, fun p1 => ⟨by omega, Pr_kd (pr_kindOf (d := d + 150) H) (fun kk μ1 e1 h2 => c_law_566 ?_)⟩⟩
  rw [e1]
  refine ⟨by omega, by omega, fun p1 => ⟨by omega, h2 _ (fun v μ2 e2 hkd H2 ek ag => ?_)⟩⟩
  obtain ⟨b, rfl⟩ := law_I hkd (by decide +kernel)
  refine c_law_578 ⟨by omega, w_LatticefitModel_thrown (d := d + 161) (c_law_584 ⟨fun _ => ?_, fun z => absurd ek z⟩)⟩
  refine g_law_594 hR ⟨fun _ => g_law_611 hR (NX _ _ H2 (by omega) _ _ _), fun z => ⟨fun _ => g_law_611 hR (NX _ _ H2 (by omega) _ _ _), fun w => ?_⟩⟩
  obtain ⟨b', e, q⟩ := ag z
  cases e
  exact absurd q w
theorem law_614 {LS W9 d : Nat} {R : ma_J} {μ : ma_M} {i : Int} {k : Nat} (hR : ma_cl (ma_Ox LS (d + 150 + 12)) (LS, [], 2, W9) (ma_at mb_law) (law_D W9) R) (H : Rel μ) (i0 : 0 ≤ i) (i1 : i + 4 ≤ LS) (hL : LS ≤ 2048) (hk : k + 3 ≤ W9) (NX : ∀ (k' : Nat) (μ' : ma_M), Rel μ' → k' ≤ k + 3 → ∀ u6 u7 u8 : ma_V, R 2595 [ma_Rf 0 0, ma_Rf 2 0, ma_Rf 69 0, ma_Rf 111 0, ma_Rf 112 0, ma_I i, u6, u7, u8] [] k' μ') : ∀ u6 u7 u8 : ma_V, R 614 [ma_Rf 0 0, ma_Rf 2 0, ma_Rf 69 0, ma_Rf 111 0, ma_Rf 112 0, ma_I i, u6, u7, u8] [] k μ := by
  intro u6 u7 u8
  refine g_law_614 hR ⟨by omega, Pr_kd (pr_map (d := d + 100) H) (fun kk μ1 e1 h2 => c_law_616 ?_)⟩
  refine ⟨by omega, h2 _ (fun v μ2 e2 hkd H2 ek ag => ?_)⟩
  obtain ⟨b, rfl⟩ := law_I hkd (by decide +kernel)
  refine c_law_622 ⟨by omega, w_LatticefitModel_thrown (d := d + 161) (c_law_628 ⟨fun _ => ?_, fun z => absurd ek z⟩)⟩
  refine g_law_638 hR ⟨fun _ => g_law_655 hR (NX _ _ H2 (by omega) _ _ _), fun z => ⟨fun _ => g_law_655 hR (NX _ _ H2 (by omega) _ _ _), fun w => ?_⟩⟩
  obtain ⟨b', e, q⟩ := ag z
  cases e
  exact absurd q w
theorem law_658 {LS W9 d : Nat} {R : ma_J} {μ : ma_M} {i : Int} {k : Nat} (hR : ma_cl (ma_Ox LS (d + 150 + 12)) (LS, [], 2, W9) (ma_at mb_law) (law_D W9) R) (H : Rel μ) (i0 : 0 ≤ i) (i1 : i + 4 ≤ LS) (hL : LS ≤ 2048) (hk : k + 3 ≤ W9) (NX : ∀ (k' : Nat) (μ' : ma_M), Rel μ' → k' ≤ k + 3 → ∀ u6 u7 u8 : ma_V, R 2595 [ma_Rf 0 0, ma_Rf 2 0, ma_Rf 69 0, ma_Rf 111 0, ma_Rf 112 0, ma_I i, u6, u7, u8] [] k' μ') : ∀ u6 u7 u8 : ma_V, R 658 [ma_Rf 0 0, ma_Rf 2 0, ma_Rf 69 0, ma_Rf 111 0, ma_Rf 112 0, ma_I i, u6, u7, u8] [] k μ := by
  intro u6 u7 u8
  refine g_law_658 hR ⟨by omega, by omega, fun p1 => ⟨by omega, Pr_kd (pr_depth (d := d + 150) H) (fun kk μ1 e1 h2 => c_law_666 ?_)⟩⟩
  rw [e1]
  refine ⟨by omega, by omega, fun p1 => ⟨by omega, h2 _ (fun v μ2 e2 hkd H2 ek ag => ?_)⟩⟩
  obtain ⟨b, rfl⟩ := law_I hkd (by decide +kernel)
  refine c_law_678 ⟨by omega, w_LatticefitModel_thrown (d := d + 161) (c_law_684 ⟨fun _ => ?_, fun z => absurd ek z⟩)⟩
  refine g_law_694 hR ⟨fun _ => g_law_711 hR (NX _ _ H2 (by omega) _ _ _), fun z => ⟨fun _ => g_law_711 hR (NX _ _ H2 (by omega) _ _ _), fun w => ?_⟩⟩
  obtain ⟨b', e, q⟩ := ag z
  cases e
  exact absurd q w
theorem law_714 {LS W9 d : Nat} {R : ma_J} {μ : ma_M} {i : Int} {k : Nat} (hR : ma_cl (ma_Ox LS (d + 150 + 12)) (LS, [], 2, W9) (ma_at mb_law) (law_D W9) R) (H : Rel μ) (i0 : 0 ≤ i) (i1 : i + 4 ≤ LS) (hL : LS ≤ 2048) (hk : k + 3 ≤ W9) (NX : ∀ (k' : Nat) (μ' : ma_M), Rel μ' → k' ≤ k + 3 → ∀ u6 u7 u8 : ma_V, R 2595 [ma_Rf 0 0, ma_Rf 2 0, ma_Rf 69 0, ma_Rf 111 0, ma_Rf 112 0, ma_I i, u6, u7, u8] [] k' μ') : ∀ u6 u7 u8 : ma_V, R 714 [ma_Rf 0 0, ma_Rf 2 0, ma_Rf 69 0, ma_Rf 111 0, ma_Rf 112 0, ma_I i, u6, u7, u8] [] k μ := by
  intro u6 u7 u8
  refine g_law_714 hR ⟨by omega, by omega, fun p1 => ⟨by omega, Pr_kd (pr_isNeeded (d := d + 150) H) (fun kk μ1 e1 h2 => c_law_722 ?_)⟩⟩
  rw [e1]
  refine ⟨by omega, by omega, fun p1 => ⟨by omega, h2 _ (fun v μ2 e2 hkd H2 ek ag => ?_)⟩⟩
  obtain ⟨b, rfl⟩ := law_I hkd (by decide +kernel)
  refine c_law_734 ⟨by omega, w_LatticefitModel_thrown (d := d + 161) (c_law_740 ⟨fun _ => ?_, fun z => absurd ek z⟩)⟩
  refine g_law_750 hR ⟨fun _ => g_law_774 hR (NX _ _ H2 (by omega) _ _ _), fun z => ?_⟩
  obtain ⟨b', e, q, w⟩ := ag z
  cases e
  exact ⟨fun b0 => g_law_767 hR (g_law_768 hR ⟨fun _ => g_law_774 hR (NX _ _ H2 (by omega) _ _ _), fun v => absurd (by omega) v⟩), fun b0 => g_law_768 hR ⟨fun _ => g_law_774 hR (NX _ _ H2 (by omega) _ _ _), fun v => absurd (by omega) v⟩⟩
theorem law_777 {LS W9 d : Nat} {R : ma_J} {μ : ma_M} {i : Int} {k : Nat} (hR : ma_cl (ma_Ox LS (d + 150 + 12)) (LS, [], 2, W9) (ma_at mb_law) (law_D W9) R) (H : Rel μ) (i0 : 0 ≤ i) (i1 : i + 4 ≤ LS) (hL : LS ≤ 2048) (hk : k + 3 ≤ W9) (NX : ∀ (k' : Nat) (μ' : ma_M), Rel μ' → k' ≤ k + 3 → ∀ u6 u7 u8 : ma_V, R 2595 [ma_Rf 0 0, ma_Rf 2 0, ma_Rf 69 0, ma_Rf 111 0, ma_Rf 112 0, ma_I i, u6, u7, u8] [] k' μ') : ∀ u6 u7 u8 : ma_V, R 777 [ma_Rf 0 0, ma_Rf 2 0, ma_Rf 69 0, ma_Rf 111 0, ma_Rf 112 0, ma_I i, u6, u7, u8] [] k μ := by
  intro u6 u7 u8
  refine g_law_777 hR ⟨by omega, by omega, fun p1 => ⟨by omega, Pr_kd (pr_word (d := d + 150) H) (fun kk μ1 e1 h2 => c_law_785 ?_)⟩⟩
  rw [e1]
  refine ⟨by omega, by omega, fun p1 => ⟨by omega, h2 _ (fun v μ2 e2 hkd H2 ek ag => ?_)⟩⟩
  obtain ⟨b, rfl⟩ := law_I hkd (by decide +kernel)
  refine c_law_797 ⟨by omega, w_LatticefitModel_thrown (d := d + 161) (c_law_803 ⟨fun _ => ?_, fun z => absurd ek z⟩)⟩
  refine g_law_813 hR ⟨fun _ => g_law_830 hR (NX _ _ H2 (by omega) _ _ _), fun z => ⟨fun _ => g_law_830 hR (NX _ _ H2 (by omega) _ _ _), fun w => ?_⟩⟩
  obtain ⟨b', e, q⟩ := ag z
  cases e
  exact absurd q w
theorem law_833 {LS W9 d : Nat} {R : ma_J} {μ : ma_M} {i : Int} {k : Nat} (hR : ma_cl (ma_Ox LS (d + 150 + 12)) (LS, [], 2, W9) (ma_at mb_law) (law_D W9) R) (H : Rel μ) (i0 : 0 ≤ i) (i1 : i + 4 ≤ LS) (hL : LS ≤ 2048) (hk : k + 3 ≤ W9) (NX : ∀ (k' : Nat) (μ' : ma_M), Rel μ' → k' ≤ k + 3 → ∀ u6 u7 u8 : ma_V, R 2595 [ma_Rf 0 0, ma_Rf 2 0, ma_Rf 69 0, ma_Rf 111 0, ma_Rf 112 0, ma_I i, u6, u7, u8] [] k' μ') : ∀ u6 u7 u8 : ma_V, R 833 [ma_Rf 0 0, ma_Rf 2 0, ma_Rf 69 0, ma_Rf 111 0, ma_Rf 112 0, ma_I i, u6, u7, u8] [] k μ := by
  intro u6 u7 u8
  refine g_law_833 hR ⟨by omega, by omega, fun p2 => ⟨by omega, by omega, fun p1 => ⟨by omega, Pr_kd (pr_inputOf (d := d + 150) H) (fun kk μ1 e1 h2 => c_law_847 ?_)⟩⟩⟩
  rw [e1]
  refine ⟨by omega, by omega, fun p2 => ⟨by omega, by omega, fun p1 => ⟨by omega, h2 _ (fun v μ2 e2 hkd H2 ek ag => ?_)⟩⟩⟩
  obtain ⟨b, rfl⟩ := law_I hkd (by decide +kernel)
  refine c_law_865 ⟨by omega, w_LatticefitModel_thrown (d := d + 161) (c_law_871 ⟨fun _ => ?_, fun z => absurd ek z⟩)⟩
  refine g_law_881 hR ⟨fun _ => g_law_898 hR (NX _ _ H2 (by omega) _ _ _), fun z => ⟨fun _ => g_law_898 hR (NX _ _ H2 (by omega) _ _ _), fun w => ?_⟩⟩
  obtain ⟨b', e, q⟩ := ag z
  cases e
  exact absurd q w
theorem law_901 {LS W9 d : Nat} {R : ma_J} {μ : ma_M} {i : Int} {k : Nat} (hR : ma_cl (ma_Ox LS (d + 150 + 12)) (LS, [], 2, W9) (ma_at mb_law) (law_D W9) R) (H : Rel μ) (i0 : 0 ≤ i) (i1 : i + 4 ≤ LS) (hL : LS ≤ 2048) (hk : k + 3 ≤ W9) (NX : ∀ (k' : Nat) (μ' : ma_M), Rel μ' → k' ≤ k + 3 → ∀ u6 u7 u8 : ma_V, R 2595 [ma_Rf 0 0, ma_Rf 2 0, ma_Rf 69 0, ma_Rf 111 0, ma_Rf 112 0, ma_I i, u6, u7, u8] [] k' μ') : ∀ u6 u7 u8 : ma_V, R 901 [ma_Rf 0 0, ma_Rf 2 0, ma_Rf 69 0, ma_Rf 111 0, ma_Rf 112 0, ma_I i, u6, u7, u8] [] k μ := by
  intro u6 u7 u8
  refine g_law_901 hR ⟨by omega, by omega, fun p1 => ⟨by omega, Pr_kd (pr_gateOf (d := d + 150) H) (fun kk μ1 e1 h2 => c_law_909 ?_)⟩⟩
  rw [e1]
  refine ⟨by omega, by omega, fun p1 => ⟨by omega, h2 _ (fun v μ2 e2 hkd H2 ek ag => ?_)⟩⟩
  obtain ⟨b, rfl⟩ := law_I hkd (by decide +kernel)
  refine c_law_921 ⟨by omega, w_LatticefitModel_thrown (d := d + 161) (c_law_927 ⟨fun _ => ?_, fun z => absurd ek z⟩)⟩
  refine g_law_937 hR ⟨fun _ => g_law_954 hR (NX _ _ H2 (by omega) _ _ _), fun z => ⟨fun _ => g_law_954 hR (NX _ _ H2 (by omega) _ _ _), fun w => ?_⟩⟩
  obtain ⟨b', e, q⟩ := ag z
  cases e
  exact absurd q w
theorem law_957 {LS W9 d : Nat} {R : ma_J} {μ : ma_M} {i : Int} {k : Nat} (hR : ma_cl (ma_Ox LS (d + 150 + 12)) (LS, [], 2, W9) (ma_at mb_law) (law_D W9) R) (H : Rel μ) (i0 : 0 ≤ i) (i1 : i + 4 ≤ LS) (hL : LS ≤ 2048) (hk : k + 3 ≤ W9) (NX : ∀ (k' : Nat) (μ' : ma_M), Rel μ' → k' ≤ k + 3 → ∀ u6 u7 u8 : ma_V, R 2595 [ma_Rf 0 0, ma_Rf 2 0, ma_Rf 69 0, ma_Rf 111 0, ma_Rf 112 0, ma_I i, u6, u7, u8] [] k' μ') : ∀ u6 u7 u8 : ma_V, R 957 [ma_Rf 0 0, ma_Rf 2 0, ma_Rf 69 0, ma_Rf 111 0, ma_Rf 112 0, ma_I i, u6, u7, u8] [] k μ := by
  intro u6 u7 u8
  refine g_law_957 hR ⟨by omega, by omega, fun p1 => ⟨by omega, Pr_kd (pr_registerOf (d := d + 150) H) (fun kk μ1 e1 h2 => c_law_965 ?_)⟩⟩
  rw [e1]
  refine ⟨by omega, by omega, fun p1 => ⟨by omega, h2 _ (fun v μ2 e2 hkd H2 ek ag => ?_)⟩⟩
  obtain ⟨b, rfl⟩ := law_I hkd (by decide +kernel)
  refine c_law_977 ⟨by omega, w_LatticefitModel_thrown (d := d + 161) (c_law_983 ⟨fun _ => ?_, fun z => absurd ek z⟩)⟩
  refine g_law_993 hR ⟨fun _ => g_law_1010 hR (NX _ _ H2 (by omega) _ _ _), fun z => ⟨fun _ => g_law_1010 hR (NX _ _ H2 (by omega) _ _ _), fun w => ?_⟩⟩
  obtain ⟨b', e, q⟩ := ag z
  cases e
  exact absurd q w
theorem law_1013 {LS W9 d : Nat} {R : ma_J} {μ : ma_M} {i : Int} {k : Nat} (hR : ma_cl (ma_Ox LS (d + 150 + 12)) (LS, [], 2, W9) (ma_at mb_law) (law_D W9) R) (H : Rel μ) (i0 : 0 ≤ i) (i1 : i + 4 ≤ LS) (hL : LS ≤ 2048) (hk : k + 3 ≤ W9) (NX : ∀ (k' : Nat) (μ' : ma_M), Rel μ' → k' ≤ k + 3 → ∀ u6 u7 u8 : ma_V, R 2595 [ma_Rf 0 0, ma_Rf 2 0, ma_Rf 69 0, ma_Rf 111 0, ma_Rf 112 0, ma_I i, u6, u7, u8] [] k' μ') : ∀ u6 u7 u8 : ma_V, R 1013 [ma_Rf 0 0, ma_Rf 2 0, ma_Rf 69 0, ma_Rf 111 0, ma_Rf 112 0, ma_I i, u6, u7, u8] [] k μ := by
  intro u6 u7 u8
  refine g_law_1013 hR ⟨by omega, by omega, fun p2 => ⟨by omega, by omega, fun p1 => ⟨by omega, Pr_kd (pr_fix (d := d + 150) H) (fun kk μ1 e1 h2 => c_law_1027 ?_)⟩⟩⟩
  rw [e1]
  refine ⟨by omega, by omega, fun p2 => ⟨by omega, by omega, fun p1 => ⟨by omega, h2 _ (fun v μ2 e2 hkd H2 ek ag => ?_)⟩⟩⟩
  obtain ⟨b, rfl⟩ := law_I hkd (by decide +kernel)
  refine c_law_1045 ⟨by omega, w_LatticefitModel_thrown (d := d + 161) (c_law_1051 ⟨fun _ => ?_, fun z => absurd ek z⟩)⟩
  refine g_law_1061 hR ⟨fun _ => g_law_1078 hR (NX _ _ H2 (by omega) _ _ _), fun z => ⟨fun _ => g_law_1078 hR (NX _ _ H2 (by omega) _ _ _), fun w => ?_⟩⟩
  obtain ⟨b', e, q⟩ := ag z
  cases e
  exact absurd q w
theorem law_1081 {LS W9 d : Nat} {R : ma_J} {μ : ma_M} {i : Int} {k : Nat} (hR : ma_cl (ma_Ox LS (d + 150 + 12)) (LS, [], 2, W9) (ma_at mb_law) (law_D W9) R) (H : Rel μ) (i0 : 0 ≤ i) (i1 : i + 4 ≤ LS) (hL : LS ≤ 2048) (hk : k + 3 ≤ W9) (NX : ∀ (k' : Nat) (μ' : ma_M), Rel μ' → k' ≤ k + 3 → ∀ u6 u7 u8 : ma_V, R 2595 [ma_Rf 0 0, ma_Rf 2 0, ma_Rf 69 0, ma_Rf 111 0, ma_Rf 112 0, ma_I i, u6, u7, u8] [] k' μ') : ∀ u6 u7 u8 : ma_V, R 1081 [ma_Rf 0 0, ma_Rf 2 0, ma_Rf 69 0, ma_Rf 111 0, ma_Rf 112 0, ma_I i, u6, u7, u8] [] k μ := by
  intro u6 u7 u8
  refine g_law_1081 hR ⟨by omega, by omega, fun p3 => ⟨by omega, by omega, fun p2 => ⟨by omega, by omega, fun p1 => ⟨by omega, Pr_kd (pr_anneal (d := d + 150) H (by omega)) (fun kk μ1 e1 h2 => c_law_1101 ?_)⟩⟩⟩⟩
  rw [e1]
  refine ⟨by omega, by omega, fun p3 => ⟨by omega, by omega, fun p2 => ⟨by omega, by omega, fun p1 => ⟨by omega, h2 _ (fun v μ2 e2 hkd H2 ek ag => ?_)⟩⟩⟩⟩
  obtain ⟨b, rfl⟩ := law_I hkd (by decide +kernel)
  refine c_law_1125 ⟨by omega, w_LatticefitModel_thrown (d := d + 161) (c_law_1131 ⟨fun _ => ?_, fun z => absurd ek z⟩)⟩
  refine g_law_1141 hR ⟨fun _ => g_law_1158 hR (NX _ _ H2 (by omega) _ _ _), fun z => ⟨fun _ => g_law_1158 hR (NX _ _ H2 (by omega) _ _ _), fun w => ?_⟩⟩
  obtain ⟨b', e, q⟩ := ag z
  cases e
  exact absurd q w
theorem law_1161 {LS W9 d : Nat} {R : ma_J} {μ : ma_M} {i : Int} {k : Nat} (hR : ma_cl (ma_Ox LS (d + 150 + 12)) (LS, [], 2, W9) (ma_at mb_law) (law_D W9) R) (H : Rel μ) (i0 : 0 ≤ i) (i1 : i + 4 ≤ LS) (hL : LS ≤ 2048) (hk : k + 3 ≤ W9) (NX : ∀ (k' : Nat) (μ' : ma_M), Rel μ' → k' ≤ k + 3 → ∀ u6 u7 u8 : ma_V, R 2595 [ma_Rf 0 0, ma_Rf 2 0, ma_Rf 69 0, ma_Rf 111 0, ma_Rf 112 0, ma_I i, u6, u7, u8] [] k' μ') : ∀ u6 u7 u8 : ma_V, R 1161 [ma_Rf 0 0, ma_Rf 2 0, ma_Rf 69 0, ma_Rf 111 0, ma_Rf 112 0, ma_I i, u6, u7, u8] [] k μ := by
  intro u6 u7 u8
  refine g_law_1161 hR ⟨by omega, by omega, fun p1 => ⟨by omega, Pr_kd (pr_cellOf (d := d + 150) H) (fun kk μ1 e1 h2 => c_law_1169 ?_)⟩⟩
  rw [e1]
  refine ⟨by omega, by omega, fun p1 => ⟨by omega, h2 _ (fun v μ2 e2 hkd H2 ek ag => ?_)⟩⟩
  obtain ⟨b, rfl⟩ := law_I hkd (by decide +kernel)
  refine c_law_1181 ⟨by omega, w_LatticefitModel_thrown (d := d + 161) (c_law_1187 ⟨fun _ => ?_, fun z => absurd ek z⟩)⟩
  refine g_law_1197 hR ⟨fun _ => g_law_1214 hR (NX _ _ H2 (by omega) _ _ _), fun z => ⟨fun _ => g_law_1214 hR (NX _ _ H2 (by omega) _ _ _), fun w => ?_⟩⟩
  obtain ⟨b', e, q⟩ := ag z
  cases e
  exact absurd q w
theorem law_1217 {LS W9 d : Nat} {R : ma_J} {μ : ma_M} {i : Int} {k : Nat} (hR : ma_cl (ma_Ox LS (d + 150 + 12)) (LS, [], 2, W9) (ma_at mb_law) (law_D W9) R) (H : Rel μ) (i0 : 0 ≤ i) (i1 : i + 4 ≤ LS) (hL : LS ≤ 2048) (hk : k + 3 ≤ W9) (NX : ∀ (k' : Nat) (μ' : ma_M), Rel μ' → k' ≤ k + 3 → ∀ u6 u7 u8 : ma_V, R 2595 [ma_Rf 0 0, ma_Rf 2 0, ma_Rf 69 0, ma_Rf 111 0, ma_Rf 112 0, ma_I i, u6, u7, u8] [] k' μ') : ∀ u6 u7 u8 : ma_V, R 1217 [ma_Rf 0 0, ma_Rf 2 0, ma_Rf 69 0, ma_Rf 111 0, ma_Rf 112 0, ma_I i, u6, u7, u8] [] k μ := by
  intro u6 u7 u8
  refine g_law_1217 hR ⟨by omega, Pr_kd (pr_cost (d := d + 150) H) (fun kk μ1 e1 h2 => c_law_1219 ?_)⟩
  refine ⟨by omega, h2 _ (fun v μ2 e2 hkd H2 ek ag => ?_)⟩
  obtain ⟨b, rfl⟩ := law_I hkd (by decide +kernel)
  refine c_law_1225 ⟨by omega, w_LatticefitModel_thrown (d := d + 161) (c_law_1231 ⟨fun _ => ?_, fun z => absurd ek z⟩)⟩
  refine g_law_1241 hR ⟨fun _ => g_law_1258 hR (NX _ _ H2 (by omega) _ _ _), fun z => ⟨fun _ => g_law_1258 hR (NX _ _ H2 (by omega) _ _ _), fun w => ?_⟩⟩
  obtain ⟨b', e, q⟩ := ag z
  cases e
  exact absurd q w
theorem law_1261 {LS W9 d : Nat} {R : ma_J} {μ : ma_M} {i : Int} {k : Nat} (hR : ma_cl (ma_Ox LS (d + 150 + 12)) (LS, [], 2, W9) (ma_at mb_law) (law_D W9) R) (H : Rel μ) (i0 : 0 ≤ i) (i1 : i + 4 ≤ LS) (hL : LS ≤ 2048) (hk : k + 3 ≤ W9) (NX : ∀ (k' : Nat) (μ' : ma_M), Rel μ' → k' ≤ k + 3 → ∀ u6 u7 u8 : ma_V, R 2595 [ma_Rf 0 0, ma_Rf 2 0, ma_Rf 69 0, ma_Rf 111 0, ma_Rf 112 0, ma_I i, u6, u7, u8] [] k' μ') : ∀ u6 u7 u8 : ma_V, R 1261 [ma_Rf 0 0, ma_Rf 2 0, ma_Rf 69 0, ma_Rf 111 0, ma_Rf 112 0, ma_I i, u6, u7, u8] [] k μ := by
  intro u6 u7 u8
  refine g_law_1261 hR ⟨by omega, Pr_kd (pr_excess (d := d + 150) H) (fun kk μ1 e1 h2 => c_law_1263 ?_)⟩
  refine ⟨by omega, h2 _ (fun v μ2 e2 hkd H2 ek ag => ?_)⟩
  obtain ⟨b, rfl⟩ := law_I hkd (by decide +kernel)
  refine c_law_1269 ⟨by omega, w_LatticefitModel_thrown (d := d + 161) (c_law_1275 ⟨fun _ => ?_, fun z => absurd ek z⟩)⟩
  refine g_law_1285 hR ⟨fun _ => g_law_1302 hR (NX _ _ H2 (by omega) _ _ _), fun z => ⟨fun _ => g_law_1302 hR (NX _ _ H2 (by omega) _ _ _), fun w => ?_⟩⟩
  obtain ⟨b', e, q⟩ := ag z
  cases e
  exact absurd q w
theorem law_1305 {LS W9 d : Nat} {R : ma_J} {μ : ma_M} {i : Int} {k : Nat} (hR : ma_cl (ma_Ox LS (d + 150 + 12)) (LS, [], 2, W9) (ma_at mb_law) (law_D W9) R) (H : Rel μ) (i0 : 0 ≤ i) (i1 : i + 4 ≤ LS) (hL : LS ≤ 2048) (hk : k + 3 ≤ W9) (NX : ∀ (k' : Nat) (μ' : ma_M), Rel μ' → k' ≤ k + 3 → ∀ u6 u7 u8 : ma_V, R 2595 [ma_Rf 0 0, ma_Rf 2 0, ma_Rf 69 0, ma_Rf 111 0, ma_Rf 112 0, ma_I i, u6, u7, u8] [] k' μ') : ∀ u6 u7 u8 : ma_V, R 1305 [ma_Rf 0 0, ma_Rf 2 0, ma_Rf 69 0, ma_Rf 111 0, ma_Rf 112 0, ma_I i, u6, u7, u8] [] k μ := by
  intro u6 u7 u8
  refine g_law_1305 hR ⟨by omega, by omega, fun p1 => ⟨by omega, Pr_kd (pr_route (d := d + 150) H) (fun kk μ1 e1 h2 => c_law_1313 ?_)⟩⟩
  rw [e1]
  refine ⟨by omega, by omega, fun p1 => ⟨by omega, h2 _ (fun v μ2 e2 hkd H2 ek ag => ?_)⟩⟩
  obtain ⟨b, rfl⟩ := law_I hkd (by decide +kernel)
  refine c_law_1325 ⟨by omega, w_LatticefitModel_thrown (d := d + 161) (c_law_1331 ⟨fun _ => ?_, fun z => absurd ek z⟩)⟩
  refine g_law_1341 hR ⟨fun _ => g_law_1358 hR (NX _ _ H2 (by omega) _ _ _), fun z => ⟨fun _ => g_law_1358 hR (NX _ _ H2 (by omega) _ _ _), fun w => ?_⟩⟩
  obtain ⟨b', e, q⟩ := ag z
  cases e
  exact absurd q w
theorem law_1361 {LS W9 d : Nat} {R : ma_J} {μ : ma_M} {i : Int} {k : Nat} (hR : ma_cl (ma_Ox LS (d + 150 + 12)) (LS, [], 2, W9) (ma_at mb_law) (law_D W9) R) (H : Rel μ) (i0 : 0 ≤ i) (i1 : i + 4 ≤ LS) (hL : LS ≤ 2048) (hk : k + 3 ≤ W9) (NX : ∀ (k' : Nat) (μ' : ma_M), Rel μ' → k' ≤ k + 3 → ∀ u6 u7 u8 : ma_V, R 2595 [ma_Rf 0 0, ma_Rf 2 0, ma_Rf 69 0, ma_Rf 111 0, ma_Rf 112 0, ma_I i, u6, u7, u8] [] k' μ') : ∀ u6 u7 u8 : ma_V, R 1361 [ma_Rf 0 0, ma_Rf 2 0, ma_Rf 69 0, ma_Rf 111 0, ma_Rf 112 0, ma_I i, u6, u7, u8] [] k μ := by
  intro u6 u7 u8
  exact g_law_1361 hR ⟨by omega, Pd_kd (pr_isRouted (d := d + 150) H) (fun b μ1 hb e1 h2 => c_law_1362 ⟨by omega, h2 _ (fun μ2 e2 H2 => c_law_1366 ⟨fun _ => NX _ _ H2 (by omega) _ _ _, fun z => absurd rfl z⟩)⟩)⟩
theorem law_1374 {LS W9 d : Nat} {R : ma_J} {μ : ma_M} {i : Int} {k : Nat} (hR : ma_cl (ma_Ox LS (d + 150 + 12)) (LS, [], 2, W9) (ma_at mb_law) (law_D W9) R) (H : Rel μ) (i0 : 0 ≤ i) (i1 : i + 4 ≤ LS) (hL : LS ≤ 2048) (hk : k + 3 ≤ W9) (NX : ∀ (k' : Nat) (μ' : ma_M), Rel μ' → k' ≤ k + 3 → ∀ u6 u7 u8 : ma_V, R 2595 [ma_Rf 0 0, ma_Rf 2 0, ma_Rf 69 0, ma_Rf 111 0, ma_Rf 112 0, ma_I i, u6, u7, u8] [] k' μ') : ∀ u6 u7 u8 : ma_V, R 1374 [ma_Rf 0 0, ma_Rf 2 0, ma_Rf 69 0, ma_Rf 111 0, ma_Rf 112 0, ma_I i, u6, u7, u8] [] k μ := by
  intro u6 u7 u8
  refine g_law_1374 hR ⟨by omega, by omega, fun p1 => ⟨by omega, Pr_kd (pr_netsOn (d := d + 150) H) (fun kk μ1 e1 h2 => c_law_1382 ?_)⟩⟩
  rw [e1]
  refine ⟨by omega, by omega, fun p1 => ⟨by omega, h2 _ (fun v μ2 e2 hkd H2 ek ag => ?_)⟩⟩
  obtain ⟨b, rfl⟩ := law_I hkd (by decide +kernel)
  refine c_law_1394 ⟨by omega, w_LatticefitModel_thrown (d := d + 161) (c_law_1400 ⟨fun _ => ?_, fun z => absurd ek z⟩)⟩
  refine g_law_1410 hR ⟨fun _ => g_law_1427 hR (NX _ _ H2 (by omega) _ _ _), fun z => ⟨fun _ => g_law_1427 hR (NX _ _ H2 (by omega) _ _ _), fun w => ?_⟩⟩
  obtain ⟨b', e, q⟩ := ag z
  cases e
  exact absurd q w
theorem law_1430 {LS W9 d : Nat} {R : ma_J} {μ : ma_M} {i : Int} {k : Nat} (hR : ma_cl (ma_Ox LS (d + 150 + 12)) (LS, [], 2, W9) (ma_at mb_law) (law_D W9) R) (H : Rel μ) (i0 : 0 ≤ i) (i1 : i + 4 ≤ LS) (hL : LS ≤ 2048) (hk : k + 3 ≤ W9) (NX : ∀ (k' : Nat) (μ' : ma_M), Rel μ' → k' ≤ k + 3 → ∀ u6 u7 u8 : ma_V, R 2595 [ma_Rf 0 0, ma_Rf 2 0, ma_Rf 69 0, ma_Rf 111 0, ma_Rf 112 0, ma_I i, u6, u7, u8] [] k' μ') : ∀ u6 u7 u8 : ma_V, R 1430 [ma_Rf 0 0, ma_Rf 2 0, ma_Rf 69 0, ma_Rf 111 0, ma_Rf 112 0, ma_I i, u6, u7, u8] [] k μ := by
  intro u6 u7 u8
  refine g_law_1430 hR ⟨by omega, by omega, fun p2 => ⟨by omega, by omega, fun p1 => ⟨by omega, Pr_kd (pr_wireOf (d := d + 150) H) (fun kk μ1 e1 h2 => c_law_1444 ?_)⟩⟩⟩
  rw [e1]
  refine ⟨by omega, by omega, fun p2 => ⟨by omega, by omega, fun p1 => ⟨by omega, h2 _ (fun v μ2 e2 hkd H2 ek ag => ?_)⟩⟩⟩
  obtain ⟨b, rfl⟩ := law_I hkd (by decide +kernel)
  refine c_law_1462 ⟨by omega, w_LatticefitModel_thrown (d := d + 161) (c_law_1468 ⟨fun _ => ?_, fun z => absurd ek z⟩)⟩
  refine g_law_1478 hR ⟨fun _ => g_law_1495 hR (NX _ _ H2 (by omega) _ _ _), fun z => ⟨fun _ => g_law_1495 hR (NX _ _ H2 (by omega) _ _ _), fun w => ?_⟩⟩
  obtain ⟨b', e, q⟩ := ag z
  cases e
  exact absurd q w
theorem law_1498 {LS W9 d : Nat} {R : ma_J} {μ : ma_M} {i : Int} {k : Nat} (hR : ma_cl (ma_Ox LS (d + 150 + 12)) (LS, [], 2, W9) (ma_at mb_law) (law_D W9) R) (H : Rel μ) (i0 : 0 ≤ i) (i1 : i + 4 ≤ LS) (hL : LS ≤ 2048) (hk : k + 3 ≤ W9) (NX : ∀ (k' : Nat) (μ' : ma_M), Rel μ' → k' ≤ k + 3 → ∀ u6 u7 u8 : ma_V, R 2595 [ma_Rf 0 0, ma_Rf 2 0, ma_Rf 69 0, ma_Rf 111 0, ma_Rf 112 0, ma_I i, u6, u7, u8] [] k' μ') : ∀ u6 u7 u8 : ma_V, R 1498 [ma_Rf 0 0, ma_Rf 2 0, ma_Rf 69 0, ma_Rf 111 0, ma_Rf 112 0, ma_I i, u6, u7, u8] [] k μ := by
  intro u6 u7 u8
  refine g_law_1498 hR ⟨by omega, by omega, fun p1 => ⟨by omega, Pr_kd (pr_timeOf (d := d) H) (fun kk μ1 e1 h2 => c_law_1506 ?_)⟩⟩
  rw [e1]
  refine ⟨by omega, by omega, fun p1 => ⟨by omega, h2 _ (fun v μ2 e2 hkd H2 ek ag => ?_)⟩⟩
  obtain ⟨b, rfl⟩ := law_I hkd (by decide +kernel)
  refine c_law_1518 ⟨by omega, w_LatticefitModel_thrown (d := d + 161) (c_law_1524 ⟨fun _ => ?_, fun z => absurd ek z⟩)⟩
  refine g_law_1534 hR ⟨fun _ => g_law_1551 hR (NX _ _ H2 (by omega) _ _ _), fun z => ⟨fun _ => g_law_1551 hR (NX _ _ H2 (by omega) _ _ _), fun w => ?_⟩⟩
  obtain ⟨b', e, q⟩ := ag z
  cases e
  exact absurd q w
theorem law_1554 {LS W9 d : Nat} {R : ma_J} {μ : ma_M} {i : Int} {k : Nat} (hR : ma_cl (ma_Ox LS (d + 150 + 12)) (LS, [], 2, W9) (ma_at mb_law) (law_D W9) R) (H : Rel μ) (i0 : 0 ≤ i) (i1 : i + 4 ≤ LS) (hL : LS ≤ 2048) (hk : k + 3 ≤ W9) (NX : ∀ (k' : Nat) (μ' : ma_M), Rel μ' → k' ≤ k + 3 → ∀ u6 u7 u8 : ma_V, R 2595 [ma_Rf 0 0, ma_Rf 2 0, ma_Rf 69 0, ma_Rf 111 0, ma_Rf 112 0, ma_I i, u6, u7, u8] [] k' μ') : ∀ u6 u7 u8 : ma_V, R 1554 [ma_Rf 0 0, ma_Rf 2 0, ma_Rf 69 0, ma_Rf 111 0, ma_Rf 112 0, ma_I i, u6, u7, u8] [] k μ := by
  intro u6 u7 u8
  refine g_law_1554 hR ⟨by omega, Pr_kd (pr_slowest (d := d) H) (fun kk μ1 e1 h2 => c_law_1556 ?_)⟩
  refine ⟨by omega, h2 _ (fun v μ2 e2 hkd H2 ek ag => ?_)⟩
  obtain ⟨b, rfl⟩ := law_I hkd (by decide +kernel)
  refine c_law_1562 ⟨by omega, w_LatticefitModel_thrown (d := d + 161) (c_law_1568 ⟨fun _ => ?_, fun z => absurd ek z⟩)⟩
  refine g_law_1578 hR ⟨fun _ => g_law_1595 hR (NX _ _ H2 (by omega) _ _ _), fun z => ⟨fun _ => g_law_1595 hR (NX _ _ H2 (by omega) _ _ _), fun w => ?_⟩⟩
  obtain ⟨b', e, q⟩ := ag z
  cases e
  exact absurd q w
theorem law_1598 {LS W9 d : Nat} {R : ma_J} {μ : ma_M} {i : Int} {k : Nat} (hR : ma_cl (ma_Ox LS (d + 150 + 12)) (LS, [], 2, W9) (ma_at mb_law) (law_D W9) R) (H : Rel μ) (i0 : 0 ≤ i) (i1 : i + 4 ≤ LS) (hL : LS ≤ 2048) (hk : k + 3 ≤ W9) (NX : ∀ (k' : Nat) (μ' : ma_M), Rel μ' → k' ≤ k + 3 → ∀ u6 u7 u8 : ma_V, R 2595 [ma_Rf 0 0, ma_Rf 2 0, ma_Rf 69 0, ma_Rf 111 0, ma_Rf 112 0, ma_I i, u6, u7, u8] [] k' μ') : ∀ u6 u7 u8 : ma_V, R 1598 [ma_Rf 0 0, ma_Rf 2 0, ma_Rf 69 0, ma_Rf 111 0, ma_Rf 112 0, ma_I i, u6, u7, u8] [] k μ := by
  intro u6 u7 u8
  refine g_law_1598 hR ⟨by omega, Pr_kd (pr_worstStretch (d := d + 150) H) (fun kk μ1 e1 h2 => c_law_1601 ?_)⟩
  refine ⟨by omega, h2 _ (fun v μ2 e2 hkd H2 ek ag => ?_)⟩
  obtain ⟨b, rfl⟩ := law_Dd hkd (by decide +kernel)
  refine c_law_1607 ⟨by omega, w_LatticefitModel_thrown (d := d + 161) (c_law_1613 ⟨fun _ => ?_, fun z => absurd ek z⟩)⟩
  refine g_law_1623 hR ⟨fun _ => g_law_1660 hR (NX _ _ H2 (by omega) _ _ _), fun z => ?_⟩
  obtain ⟨b', e, q, w⟩ := ag z
  cases e
  have e3 : UInt64.ofNat (Int.toNat (μ2 112 0 0)) = b := by rw [w, Int.toNat_natCast, UInt64.ofNat_toNat]
  have e4 : (Op.cmpValue (FP.dcmp (UInt64.ofNat (Int.toNat (μ2 112 0 0))) b) .l).toInt = 0 := by rw [e3, fo_n64 q]; rfl
  exact ⟨fun _ => g_law_1660 hR (NX _ _ H2 (by omega) _ _ _), fun v => absurd e4 v⟩
theorem law_1663 {LS W9 d : Nat} {R : ma_J} {μ : ma_M} {i : Int} {k : Nat} (hR : ma_cl (ma_Ox LS (d + 150 + 12)) (LS, [], 2, W9) (ma_at mb_law) (law_D W9) R) (H : Rel μ) (i0 : 0 ≤ i) (i1 : i + 4 ≤ LS) (hL : LS ≤ 2048) (hk : k + 3 ≤ W9) (NX : ∀ (k' : Nat) (μ' : ma_M), Rel μ' → k' ≤ k + 3 → ∀ u6 u7 u8 : ma_V, R 2595 [ma_Rf 0 0, ma_Rf 2 0, ma_Rf 69 0, ma_Rf 111 0, ma_Rf 112 0, ma_I i, u6, u7, u8] [] k' μ') : ∀ u6 u7 u8 : ma_V, R 1663 [ma_Rf 0 0, ma_Rf 2 0, ma_Rf 69 0, ma_Rf 111 0, ma_Rf 112 0, ma_I i, u6, u7, u8] [] k μ := by
  intro u6 u7 u8
  refine g_law_1663 hR ⟨by omega, Pr_kd (pr_build (d := d + 150) H) (fun kk μ1 e1 h2 => c_law_1665 ?_)⟩
  refine ⟨by omega, h2 _ (fun v μ2 e2 hkd H2 ek ag => ?_)⟩
  obtain ⟨b, rfl⟩ := law_I hkd (by decide +kernel)
  refine c_law_1671 ⟨by omega, w_LatticefitModel_thrown (d := d + 161) (c_law_1677 ⟨fun _ => ?_, fun z => absurd ek z⟩)⟩
  refine g_law_1687 hR ⟨fun _ => g_law_1704 hR (NX _ _ H2 (by omega) _ _ _), fun z => ⟨fun _ => g_law_1704 hR (NX _ _ H2 (by omega) _ _ _), fun w => ?_⟩⟩
  obtain ⟨b', e, q⟩ := ag z
  cases e
  exact absurd q w
theorem law_1707 {LS W9 d : Nat} {R : ma_J} {μ : ma_M} {i : Int} {k : Nat} (hR : ma_cl (ma_Ox LS (d + 150 + 12)) (LS, [], 2, W9) (ma_at mb_law) (law_D W9) R) (H : Rel μ) (i0 : 0 ≤ i) (i1 : i + 4 ≤ LS) (hL : LS ≤ 2048) (hk : k + 3 ≤ W9) (NX : ∀ (k' : Nat) (μ' : ma_M), Rel μ' → k' ≤ k + 3 → ∀ u6 u7 u8 : ma_V, R 2595 [ma_Rf 0 0, ma_Rf 2 0, ma_Rf 69 0, ma_Rf 111 0, ma_Rf 112 0, ma_I i, u6, u7, u8] [] k' μ') : ∀ u6 u7 u8 : ma_V, R 1707 [ma_Rf 0 0, ma_Rf 2 0, ma_Rf 69 0, ma_Rf 111 0, ma_Rf 112 0, ma_I i, u6, u7, u8] [] k μ := by
  intro u6 u7 u8
  refine g_law_1707 hR ⟨by omega, by omega, fun p2 => ⟨by omega, by omega, fun p1 => ⟨by omega, Pr_kd (pr_wordAt (d := d + 150) H) (fun kk μ1 e1 h2 => c_law_1721 ?_)⟩⟩⟩
  rw [e1]
  refine ⟨by omega, by omega, fun p2 => ⟨by omega, by omega, fun p1 => ⟨by omega, h2 _ (fun v μ2 e2 hkd H2 ek ag => ?_)⟩⟩⟩
  obtain ⟨b, rfl⟩ := law_I hkd (by decide +kernel)
  refine c_law_1739 ⟨by omega, w_LatticefitModel_thrown (d := d + 161) (c_law_1745 ⟨fun _ => ?_, fun z => absurd ek z⟩)⟩
  refine g_law_1755 hR ⟨fun _ => g_law_1772 hR (NX _ _ H2 (by omega) _ _ _), fun z => ⟨fun _ => g_law_1772 hR (NX _ _ H2 (by omega) _ _ _), fun w => ?_⟩⟩
  obtain ⟨b', e, q⟩ := ag z
  cases e
  exact absurd q w
theorem law_1775 {LS W9 d : Nat} {R : ma_J} {μ : ma_M} {i : Int} {k : Nat} (hR : ma_cl (ma_Ox LS (d + 150 + 12)) (LS, [], 2, W9) (ma_at mb_law) (law_D W9) R) (H : Rel μ) (i0 : 0 ≤ i) (i1 : i + 4 ≤ LS) (hL : LS ≤ 2048) (hk : k + 3 ≤ W9) (NX : ∀ (k' : Nat) (μ' : ma_M), Rel μ' → k' ≤ k + 3 → ∀ u6 u7 u8 : ma_V, R 2595 [ma_Rf 0 0, ma_Rf 2 0, ma_Rf 69 0, ma_Rf 111 0, ma_Rf 112 0, ma_I i, u6, u7, u8] [] k' μ') : ∀ u6 u7 u8 : ma_V, R 1775 [ma_Rf 0 0, ma_Rf 2 0, ma_Rf 69 0, ma_Rf 111 0, ma_Rf 112 0, ma_I i, u6, u7, u8] [] k μ := by
  intro u6 u7 u8
  refine g_law_1775 hR ⟨by omega, by omega, fun p1 => ⟨by omega, Pr_kd (pr_check (d := d + 150) H) (fun kk μ1 e1 h2 => c_law_1783 ?_)⟩⟩
  rw [e1]
  refine ⟨by omega, by omega, fun p1 => ⟨by omega, h2 _ (fun v μ2 e2 hkd H2 ek ag => ?_)⟩⟩
  obtain ⟨b, rfl⟩ := law_I hkd (by decide +kernel)
  refine c_law_1795 ⟨by omega, w_LatticefitModel_thrown (d := d + 161) (c_law_1801 ⟨fun _ => ?_, fun z => absurd ek z⟩)⟩
  refine g_law_1811 hR ⟨fun _ => g_law_1828 hR (NX _ _ H2 (by omega) _ _ _), fun z => ⟨fun _ => g_law_1828 hR (NX _ _ H2 (by omega) _ _ _), fun w => ?_⟩⟩
  obtain ⟨b', e, q⟩ := ag z
  cases e
  exact absurd q w
theorem law_1831 {LS W9 d : Nat} {R : ma_J} {μ : ma_M} {i : Int} {k : Nat} (hR : ma_cl (ma_Ox LS (d + 150 + 12)) (LS, [], 2, W9) (ma_at mb_law) (law_D W9) R) (H : Rel μ) (i0 : 0 ≤ i) (i1 : i + 4 ≤ LS) (hL : LS ≤ 2048) (hk : k + 3 ≤ W9) (NX : ∀ (k' : Nat) (μ' : ma_M), Rel μ' → k' ≤ k + 3 → ∀ u6 u7 u8 : ma_V, R 2595 [ma_Rf 0 0, ma_Rf 2 0, ma_Rf 69 0, ma_Rf 111 0, ma_Rf 112 0, ma_I i, u6, u7, u8] [] k' μ') : ∀ u6 u7 u8 : ma_V, R 1831 [ma_Rf 0 0, ma_Rf 2 0, ma_Rf 69 0, ma_Rf 111 0, ma_Rf 112 0, ma_I i, u6, u7, u8] [] k μ := by
  intro u6 u7 u8
  refine g_law_1831 hR ⟨by omega, Pr_kd (pr_start (d := d + 150) H) (fun kk μ1 e1 h2 => c_law_1833 ?_)⟩
  refine ⟨by omega, h2 _ (fun v μ2 e2 hkd H2 ek ag => ?_)⟩
  obtain ⟨b, rfl⟩ := law_I hkd (by decide +kernel)
  refine c_law_1839 ⟨by omega, w_LatticefitModel_thrown (d := d + 161) (c_law_1845 ⟨fun _ => ?_, fun z => absurd ek z⟩)⟩
  refine g_law_1855 hR ⟨fun _ => g_law_1872 hR (NX _ _ H2 (by omega) _ _ _), fun z => ⟨fun _ => g_law_1872 hR (NX _ _ H2 (by omega) _ _ _), fun w => ?_⟩⟩
  obtain ⟨b', e, q⟩ := ag z
  cases e
  exact absurd q w
theorem law_1875 {LS W9 d : Nat} {R : ma_J} {μ : ma_M} {i : Int} {k : Nat} (hR : ma_cl (ma_Ox LS (d + 150 + 12)) (LS, [], 2, W9) (ma_at mb_law) (law_D W9) R) (H : Rel μ) (i0 : 0 ≤ i) (i1 : i + 4 ≤ LS) (hL : LS ≤ 2048) (hk : k + 3 ≤ W9) (NX : ∀ (k' : Nat) (μ' : ma_M), Rel μ' → k' ≤ k + 3 → ∀ u6 u7 u8 : ma_V, R 2595 [ma_Rf 0 0, ma_Rf 2 0, ma_Rf 69 0, ma_Rf 111 0, ma_Rf 112 0, ma_I i, u6, u7, u8] [] k' μ') : ∀ u6 u7 u8 : ma_V, R 1875 [ma_Rf 0 0, ma_Rf 2 0, ma_Rf 69 0, ma_Rf 111 0, ma_Rf 112 0, ma_I i, u6, u7, u8] [] k μ := by
  intro u6 u7 u8
  have key : ∀ s : Int, (μ 0 0 (i + 2) = 0 ∧ s = 0 ∨ ¬ μ 0 0 (i + 2) = 0 ∧ s = 1) → R 1896 [ma_Rf 0 0, ma_Rf 2 0, ma_Rf 69 0, ma_Rf 111 0, ma_Rf 112 0, ma_I i, ma_U, ma_U, ma_U] [ma_I s, ma_I (μ 0 0 (i + 1)), ma_Rf 2 0] k μ := by
    intro s hs
    refine g_law_1896 hR ⟨by omega, Pr_kd (pr_setInput (d := d + 150) H (by omega)) (fun kk μ1 e1 h2 => c_law_1897 ?_)⟩
    rw [e1]
    have key2 : R 1923 [ma_Rf 0 0, ma_Rf 2 0, ma_Rf 69 0, ma_Rf 111 0, ma_Rf 112 0, ma_I i, ma_I kk, ma_U, ma_U] [ma_I s, ma_I (μ 0 0 (i + 1)), ma_Rf 69 0] (k + 2) μ1 := by
      refine g_law_1923 hR ?_
      refine ⟨by omega, h2 _ (fun v μ2 e2 hkd H2 ek ag => ?_)⟩
      obtain ⟨b, rfl⟩ := law_I hkd (by decide +kernel)
      refine c_law_1923 ⟨by omega, w_LatticefitModel_thrown (d := d + 161) (c_law_1929 ⟨fun _ => ?_, fun z => absurd ek z⟩)⟩
      refine g_law_1939 hR ⟨fun _ => g_law_1963 hR (NX _ _ H2 (by omega) _ _ _), fun z => ?_⟩
      obtain ⟨b', e, q, w⟩ := ag z
      cases e
      exact ⟨fun b0 => g_law_1956 hR (g_law_1957 hR ⟨fun _ => g_law_1963 hR (NX _ _ H2 (by omega) _ _ _), fun v => absurd (by omega) v⟩), fun b0 => g_law_1957 hR ⟨fun _ => g_law_1963 hR (NX _ _ H2 (by omega) _ _ _), fun v => absurd (by omega) v⟩⟩
    refine ⟨by omega, by omega, fun p1 => ⟨by omega, by omega, fun p2 => ⟨fun z => g_law_1922 hR ?_, fun z => ?_⟩⟩⟩
    · rcases hs with w | w
      · rw [w.2] at key2; exact key2
      · exact absurd z w.1
    · rcases hs with w | w
      · exact absurd w.1 z
      · rw [w.2] at key2; exact key2
  exact g_law_1875 hR ⟨by omega, by omega, fun p1 => ⟨by omega, by omega, fun p2 => ⟨fun z => g_law_1895 hR (key 0 (.inl ⟨z, rfl⟩)), fun z => key 1 (.inr ⟨z, rfl⟩)⟩⟩⟩
theorem law_1966 {LS W9 d : Nat} {R : ma_J} {μ : ma_M} {i : Int} {k : Nat} (hR : ma_cl (ma_Ox LS (d + 150 + 12)) (LS, [], 2, W9) (ma_at mb_law) (law_D W9) R) (H : Rel μ) (i0 : 0 ≤ i) (i1 : i + 4 ≤ LS) (hL : LS ≤ 2048) (hk : k + 3 ≤ W9) (NX : ∀ (k' : Nat) (μ' : ma_M), Rel μ' → k' ≤ k + 3 → ∀ u6 u7 u8 : ma_V, R 2595 [ma_Rf 0 0, ma_Rf 2 0, ma_Rf 69 0, ma_Rf 111 0, ma_Rf 112 0, ma_I i, u6, u7, u8] [] k' μ') : ∀ u6 u7 u8 : ma_V, R 1966 [ma_Rf 0 0, ma_Rf 2 0, ma_Rf 69 0, ma_Rf 111 0, ma_Rf 112 0, ma_I i, u6, u7, u8] [] k μ := by
  intro u6 u7 u8
  refine g_law_1966 hR ⟨by omega, by omega, fun p1 => ⟨by omega, Pr_kd (pr_tick (d := d + 150) H) (fun kk μ1 e1 h2 => c_law_1974 ?_)⟩⟩
  rw [e1]
  refine ⟨by omega, by omega, fun p1 => ⟨by omega, h2 _ (fun v μ2 e2 hkd H2 ek ag => ?_)⟩⟩
  obtain ⟨b, rfl⟩ := law_L hkd (by decide +kernel)
  refine c_law_1986 ⟨by omega, w_LatticefitModel_thrown (d := d + 161) (c_law_1992 ⟨fun _ => ?_, fun z => absurd ek z⟩)⟩
  refine g_law_2002 hR ⟨fun _ => g_law_2018 hR (NX _ _ H2 (by omega) _ _ _), fun z => ⟨fun _ => g_law_2018 hR (NX _ _ H2 (by omega) _ _ _), fun w => ?_⟩⟩
  obtain ⟨b', e, q⟩ := ag z
  cases e
  exact absurd q w
theorem law_2021 {LS W9 d : Nat} {R : ma_J} {μ : ma_M} {i : Int} {k : Nat} (hR : ma_cl (ma_Ox LS (d + 150 + 12)) (LS, [], 2, W9) (ma_at mb_law) (law_D W9) R) (H : Rel μ) (i0 : 0 ≤ i) (i1 : i + 4 ≤ LS) (hL : LS ≤ 2048) (hk : k + 3 ≤ W9) (NX : ∀ (k' : Nat) (μ' : ma_M), Rel μ' → k' ≤ k + 3 → ∀ u6 u7 u8 : ma_V, R 2595 [ma_Rf 0 0, ma_Rf 2 0, ma_Rf 69 0, ma_Rf 111 0, ma_Rf 112 0, ma_I i, u6, u7, u8] [] k' μ') : ∀ u6 u7 u8 : ma_V, R 2021 [ma_Rf 0 0, ma_Rf 2 0, ma_Rf 69 0, ma_Rf 111 0, ma_Rf 112 0, ma_I i, u6, u7, u8] [] k μ := by
  intro u6 u7 u8
  refine g_law_2021 hR ⟨by omega, by omega, fun p1 => ⟨by omega, Pr_kd (pr_circuitOutput (d := d + 150) H) (fun kk μ1 e1 h2 => c_law_2029 ?_)⟩⟩
  rw [e1]
  refine ⟨by omega, by omega, fun p1 => ⟨by omega, h2 _ (fun v μ2 e2 hkd H2 ek ag => ?_)⟩⟩
  obtain ⟨b, rfl⟩ := law_I hkd (by decide +kernel)
  refine c_law_2041 ⟨by omega, w_LatticefitModel_thrown (d := d + 161) (c_law_2047 ⟨fun _ => ?_, fun z => absurd ek z⟩)⟩
  refine g_law_2057 hR ⟨fun _ => g_law_2081 hR (NX _ _ H2 (by omega) _ _ _), fun z => ?_⟩
  obtain ⟨b', e, q, w⟩ := ag z
  cases e
  exact ⟨fun b0 => g_law_2074 hR (g_law_2075 hR ⟨fun _ => g_law_2081 hR (NX _ _ H2 (by omega) _ _ _), fun v => absurd (by omega) v⟩), fun b0 => g_law_2075 hR ⟨fun _ => g_law_2081 hR (NX _ _ H2 (by omega) _ _ _), fun v => absurd (by omega) v⟩⟩
theorem law_2084 {LS W9 d : Nat} {R : ma_J} {μ : ma_M} {i : Int} {k : Nat} (hR : ma_cl (ma_Ox LS (d + 150 + 12)) (LS, [], 2, W9) (ma_at mb_law) (law_D W9) R) (H : Rel μ) (i0 : 0 ≤ i) (i1 : i + 4 ≤ LS) (hL : LS ≤ 2048) (hk : k + 3 ≤ W9) (NX : ∀ (k' : Nat) (μ' : ma_M), Rel μ' → k' ≤ k + 3 → ∀ u6 u7 u8 : ma_V, R 2595 [ma_Rf 0 0, ma_Rf 2 0, ma_Rf 69 0, ma_Rf 111 0, ma_Rf 112 0, ma_I i, u6, u7, u8] [] k' μ') : ∀ u6 u7 u8 : ma_V, R 2084 [ma_Rf 0 0, ma_Rf 2 0, ma_Rf 69 0, ma_Rf 111 0, ma_Rf 112 0, ma_I i, u6, u7, u8] [] k μ := by
  intro u6 u7 u8
  refine g_law_2084 hR ⟨by omega, by omega, fun p1 => ⟨by omega, Pr_kd (pr_chipOutput (d := d + 150) H) (fun kk μ1 e1 h2 => c_law_2092 ?_)⟩⟩
  rw [e1]
  refine ⟨by omega, by omega, fun p1 => ⟨by omega, h2 _ (fun v μ2 e2 hkd H2 ek ag => ?_)⟩⟩
  obtain ⟨b, rfl⟩ := law_I hkd (by decide +kernel)
  refine c_law_2104 ⟨by omega, w_LatticefitModel_thrown (d := d + 161) (c_law_2110 ⟨fun _ => ?_, fun z => absurd ek z⟩)⟩
  refine g_law_2120 hR ⟨fun _ => g_law_2144 hR (NX _ _ H2 (by omega) _ _ _), fun z => ?_⟩
  obtain ⟨b', e, q, w⟩ := ag z
  cases e
  exact ⟨fun b0 => g_law_2137 hR (g_law_2138 hR ⟨fun _ => g_law_2144 hR (NX _ _ H2 (by omega) _ _ _), fun v => absurd (by omega) v⟩), fun b0 => g_law_2138 hR ⟨fun _ => g_law_2144 hR (NX _ _ H2 (by omega) _ _ _), fun v => absurd (by omega) v⟩⟩
theorem law_2147 {LS W9 d : Nat} {R : ma_J} {μ : ma_M} {i : Int} {k : Nat} (hR : ma_cl (ma_Ox LS (d + 150 + 12)) (LS, [], 2, W9) (ma_at mb_law) (law_D W9) R) (H : Rel μ) (i0 : 0 ≤ i) (i1 : i + 4 ≤ LS) (hL : LS ≤ 2048) (hk : k + 3 ≤ W9) (NX : ∀ (k' : Nat) (μ' : ma_M), Rel μ' → k' ≤ k + 3 → ∀ u6 u7 u8 : ma_V, R 2595 [ma_Rf 0 0, ma_Rf 2 0, ma_Rf 69 0, ma_Rf 111 0, ma_Rf 112 0, ma_I i, u6, u7, u8] [] k' μ') : ∀ u6 u7 u8 : ma_V, R 2147 [ma_Rf 0 0, ma_Rf 2 0, ma_Rf 69 0, ma_Rf 111 0, ma_Rf 112 0, ma_I i, u6, u7, u8] [] k μ := by
  intro u6 u7 u8
  refine g_law_2147 hR ⟨by omega, by omega, fun p1 => ⟨by omega, Pr_kd (pr_chipRegister (d := d + 150) H) (fun kk μ1 e1 h2 => c_law_2155 ?_)⟩⟩
  rw [e1]
  refine ⟨by omega, by omega, fun p1 => ⟨by omega, h2 _ (fun v μ2 e2 hkd H2 ek ag => ?_)⟩⟩
  obtain ⟨b, rfl⟩ := law_I hkd (by decide +kernel)
  refine c_law_2167 ⟨by omega, w_LatticefitModel_thrown (d := d + 161) (c_law_2173 ⟨fun _ => ?_, fun z => absurd ek z⟩)⟩
  refine g_law_2183 hR ⟨fun _ => g_law_2207 hR (NX _ _ H2 (by omega) _ _ _), fun z => ?_⟩
  obtain ⟨b', e, q, w⟩ := ag z
  cases e
  exact ⟨fun b0 => g_law_2200 hR (g_law_2201 hR ⟨fun _ => g_law_2207 hR (NX _ _ H2 (by omega) _ _ _), fun v => absurd (by omega) v⟩), fun b0 => g_law_2201 hR ⟨fun _ => g_law_2207 hR (NX _ _ H2 (by omega) _ _ _), fun v => absurd (by omega) v⟩⟩
theorem law_2210 {LS W9 d : Nat} {R : ma_J} {μ : ma_M} {i : Int} {k : Nat} (hR : ma_cl (ma_Ox LS (d + 150 + 12)) (LS, [], 2, W9) (ma_at mb_law) (law_D W9) R) (H : Rel μ) (i0 : 0 ≤ i) (i1 : i + 4 ≤ LS) (hL : LS ≤ 2048) (hk : k + 3 ≤ W9) (NX : ∀ (k' : Nat) (μ' : ma_M), Rel μ' → k' ≤ k + 3 → ∀ u6 u7 u8 : ma_V, R 2595 [ma_Rf 0 0, ma_Rf 2 0, ma_Rf 69 0, ma_Rf 111 0, ma_Rf 112 0, ma_I i, u6, u7, u8] [] k' μ') : ∀ u6 u7 u8 : ma_V, R 2210 [ma_Rf 0 0, ma_Rf 2 0, ma_Rf 69 0, ma_Rf 111 0, ma_Rf 112 0, ma_I i, u6, u7, u8] [] k μ := by
  intro u6 u7 u8
  refine g_law_2210 hR ⟨by omega, by omega, fun p2 => ⟨by omega, by omega, fun p1 => ⟨by omega, Pr_kd (pr_sourceOf (d := d + 150) H) (fun kk μ1 e1 h2 => c_law_2224 ?_)⟩⟩⟩
  rw [e1]
  refine ⟨by omega, by omega, fun p2 => ⟨by omega, by omega, fun p1 => ⟨by omega, h2 _ (fun v μ2 e2 hkd H2 ek ag => ?_)⟩⟩⟩
  obtain ⟨b, rfl⟩ := law_I hkd (by decide +kernel)
  refine c_law_2242 ⟨by omega, w_LatticefitModel_thrown (d := d + 161) (c_law_2248 ⟨fun _ => ?_, fun z => absurd ek z⟩)⟩
  refine g_law_2258 hR ⟨fun _ => g_law_2275 hR (NX _ _ H2 (by omega) _ _ _), fun z => ⟨fun _ => g_law_2275 hR (NX _ _ H2 (by omega) _ _ _), fun w => ?_⟩⟩
  obtain ⟨b', e, q⟩ := ag z
  cases e
  exact absurd q w
theorem law_2278 {LS W9 d : Nat} {R : ma_J} {μ : ma_M} {i : Int} {k : Nat} (hR : ma_cl (ma_Ox LS (d + 150 + 12)) (LS, [], 2, W9) (ma_at mb_law) (law_D W9) R) (H : Rel μ) (i0 : 0 ≤ i) (i1 : i + 4 ≤ LS) (hL : LS ≤ 2048) (hk : k + 3 ≤ W9) (NX : ∀ (k' : Nat) (μ' : ma_M), Rel μ' → k' ≤ k + 3 → ∀ u6 u7 u8 : ma_V, R 2595 [ma_Rf 0 0, ma_Rf 2 0, ma_Rf 69 0, ma_Rf 111 0, ma_Rf 112 0, ma_I i, u6, u7, u8] [] k' μ') : ∀ u6 u7 u8 : ma_V, R 2278 [ma_Rf 0 0, ma_Rf 2 0, ma_Rf 69 0, ma_Rf 111 0, ma_Rf 112 0, ma_I i, u6, u7, u8] [] k μ := by
  intro u6 u7 u8
  refine g_law_2278 hR ⟨by omega, by omega, fun p3 => ⟨by omega, by omega, fun p2 => ⟨by omega, by omega, fun p1 => ⟨by omega, Pr_kd (pr_flip (d := d + 150) H) (fun kk μ1 e1 h2 => c_law_2298 ?_)⟩⟩⟩⟩
  rw [e1]
  refine ⟨by omega, by omega, fun p3 => ⟨by omega, by omega, fun p2 => ⟨by omega, by omega, fun p1 => ⟨by omega, h2 _ (fun v μ2 e2 hkd H2 ek ag => ?_)⟩⟩⟩⟩
  obtain ⟨b, rfl⟩ := law_I hkd (by decide +kernel)
  refine c_law_2322 ⟨by omega, w_LatticefitModel_thrown (d := d + 161) (c_law_2328 ⟨fun _ => ?_, fun z => absurd ek z⟩)⟩
  refine g_law_2338 hR ⟨fun _ => g_law_2355 hR (NX _ _ H2 (by omega) _ _ _), fun z => ⟨fun _ => g_law_2355 hR (NX _ _ H2 (by omega) _ _ _), fun w => ?_⟩⟩
  obtain ⟨b', e, q⟩ := ag z
  cases e
  exact absurd q w
theorem law_2358 {LS W9 d : Nat} {R : ma_J} {μ : ma_M} {i : Int} {k : Nat} (hR : ma_cl (ma_Ox LS (d + 150 + 12)) (LS, [], 2, W9) (ma_at mb_law) (law_D W9) R) (H : Rel μ) (i0 : 0 ≤ i) (i1 : i + 4 ≤ LS) (hL : LS ≤ 2048) (hk : k + 3 ≤ W9) (NX : ∀ (k' : Nat) (μ' : ma_M), Rel μ' → k' ≤ k + 3 → ∀ u6 u7 u8 : ma_V, R 2595 [ma_Rf 0 0, ma_Rf 2 0, ma_Rf 69 0, ma_Rf 111 0, ma_Rf 112 0, ma_I i, u6, u7, u8] [] k' μ') : ∀ u6 u7 u8 : ma_V, R 2358 [ma_Rf 0 0, ma_Rf 2 0, ma_Rf 69 0, ma_Rf 111 0, ma_Rf 112 0, ma_I i, u6, u7, u8] [] k μ := by
  intro u6 u7 u8
  refine g_law_2358 hR ⟨by omega, by omega, fun p1 => ⟨by omega, Pr_kd (pr_isBad (d := d + 150) H) (fun kk μ1 e1 h2 => c_law_2366 ?_)⟩⟩
  rw [e1]
  refine ⟨by omega, by omega, fun p1 => ⟨by omega, h2 _ (fun v μ2 e2 hkd H2 ek ag => ?_)⟩⟩
  obtain ⟨b, rfl⟩ := law_I hkd (by decide +kernel)
  refine c_law_2378 ⟨by omega, w_LatticefitModel_thrown (d := d + 161) (c_law_2384 ⟨fun _ => ?_, fun z => absurd ek z⟩)⟩
  refine g_law_2394 hR ⟨fun _ => g_law_2418 hR (NX _ _ H2 (by omega) _ _ _), fun z => ?_⟩
  obtain ⟨b', e, q, w⟩ := ag z
  cases e
  exact ⟨fun b0 => g_law_2411 hR (g_law_2412 hR ⟨fun _ => g_law_2418 hR (NX _ _ H2 (by omega) _ _ _), fun v => absurd (by omega) v⟩), fun b0 => g_law_2412 hR ⟨fun _ => g_law_2418 hR (NX _ _ H2 (by omega) _ _ _), fun v => absurd (by omega) v⟩⟩
theorem law_2421 {LS W9 d : Nat} {R : ma_J} {μ : ma_M} {i : Int} {k : Nat} (hR : ma_cl (ma_Ox LS (d + 150 + 12)) (LS, [], 2, W9) (ma_at mb_law) (law_D W9) R) (H : Rel μ) (i0 : 0 ≤ i) (i1 : i + 4 ≤ LS) (hL : LS ≤ 2048) (hk : k + 3 ≤ W9) (NX : ∀ (k' : Nat) (μ' : ma_M), Rel μ' → k' ≤ k + 3 → ∀ u6 u7 u8 : ma_V, R 2595 [ma_Rf 0 0, ma_Rf 2 0, ma_Rf 69 0, ma_Rf 111 0, ma_Rf 112 0, ma_I i, u6, u7, u8] [] k' μ') : ∀ u6 u7 u8 : ma_V, R 2421 [ma_Rf 0 0, ma_Rf 2 0, ma_Rf 69 0, ma_Rf 111 0, ma_Rf 112 0, ma_I i, u6, u7, u8] [] k μ := by
  intro u6 u7 u8
  refine g_law_2421 hR ⟨by omega, Pr_kd (pr_scrub (d := d + 150) H) (fun kk μ1 e1 h2 => c_law_2423 ?_)⟩
  refine ⟨by omega, h2 _ (fun v μ2 e2 hkd H2 ek ag => ?_)⟩
  obtain ⟨b, rfl⟩ := law_I hkd (by decide +kernel)
  refine c_law_2429 ⟨by omega, w_LatticefitModel_thrown (d := d + 161) (c_law_2435 ⟨fun _ => ?_, fun z => absurd ek z⟩)⟩
  refine g_law_2445 hR ⟨fun _ => g_law_2462 hR (NX _ _ H2 (by omega) _ _ _), fun z => ⟨fun _ => g_law_2462 hR (NX _ _ H2 (by omega) _ _ _), fun w => ?_⟩⟩
  obtain ⟨b', e, q⟩ := ag z
  cases e
  exact absurd q w
theorem law_2465 {LS W9 d : Nat} {R : ma_J} {μ : ma_M} {i : Int} {k : Nat} (hR : ma_cl (ma_Ox LS (d + 150 + 12)) (LS, [], 2, W9) (ma_at mb_law) (law_D W9) R) (H : Rel μ) (i0 : 0 ≤ i) (i1 : i + 4 ≤ LS) (hL : LS ≤ 2048) (hk : k + 3 ≤ W9) (NX : ∀ (k' : Nat) (μ' : ma_M), Rel μ' → k' ≤ k + 3 → ∀ u6 u7 u8 : ma_V, R 2595 [ma_Rf 0 0, ma_Rf 2 0, ma_Rf 69 0, ma_Rf 111 0, ma_Rf 112 0, ma_I i, u6, u7, u8] [] k' μ') : ∀ u6 u7 u8 : ma_V, R 2465 [ma_Rf 0 0, ma_Rf 2 0, ma_Rf 69 0, ma_Rf 111 0, ma_Rf 112 0, ma_I i, u6, u7, u8] [] k μ := by
  intro u6 u7 u8
  refine g_law_2465 hR ⟨by omega, Pr_kd (pr_agrees (d := d + 150) H) (fun kk μ1 e1 h2 => c_law_2467 ?_)⟩
  refine ⟨by omega, h2 _ (fun v μ2 e2 hkd H2 ek ag => ?_)⟩
  obtain ⟨b, rfl⟩ := law_I hkd (by decide +kernel)
  refine c_law_2473 ⟨by omega, w_LatticefitModel_thrown (d := d + 161) (c_law_2479 ⟨fun _ => ?_, fun z => absurd ek z⟩)⟩
  refine g_law_2489 hR ⟨fun _ => g_law_2513 hR (NX _ _ H2 (by omega) _ _ _), fun z => ?_⟩
  obtain ⟨b', e, q, w⟩ := ag z
  cases e
  exact ⟨fun b0 => g_law_2506 hR (g_law_2507 hR ⟨fun _ => g_law_2513 hR (NX _ _ H2 (by omega) _ _ _), fun v => absurd (by omega) v⟩), fun b0 => g_law_2507 hR ⟨fun _ => g_law_2513 hR (NX _ _ H2 (by omega) _ _ _), fun v => absurd (by omega) v⟩⟩
theorem law_2516 {LS W9 d : Nat} {R : ma_J} {μ : ma_M} {i : Int} {k : Nat} (hR : ma_cl (ma_Ox LS (d + 150 + 12)) (LS, [], 2, W9) (ma_at mb_law) (law_D W9) R) (H : Rel μ) (i0 : 0 ≤ i) (i1 : i + 4 ≤ LS) (hL : LS ≤ 2048) (hk : k + 3 ≤ W9) (NX : ∀ (k' : Nat) (μ' : ma_M), Rel μ' → k' ≤ k + 3 → ∀ u6 u7 u8 : ma_V, R 2595 [ma_Rf 0 0, ma_Rf 2 0, ma_Rf 69 0, ma_Rf 111 0, ma_Rf 112 0, ma_I i, u6, u7, u8] [] k' μ') : ∀ u6 u7 u8 : ma_V, R 2516 [ma_Rf 0 0, ma_Rf 2 0, ma_Rf 69 0, ma_Rf 111 0, ma_Rf 112 0, ma_I i, u6, u7, u8] [] k μ := by
  intro u6 u7 u8
  refine g_law_2516 hR ⟨by omega, Pr_kd (pr_fill (d := d + 150) H) (fun kk μ1 e1 h2 => c_law_2519 ?_)⟩
  refine ⟨by omega, h2 _ (fun v μ2 e2 hkd H2 ek ag => ?_)⟩
  obtain ⟨b, rfl⟩ := law_F hkd (by decide +kernel)
  refine c_law_2525 ⟨by omega, w_LatticefitModel_thrown (d := d + 161) (c_law_2531 ⟨fun _ => ?_, fun z => absurd ek z⟩)⟩
  refine g_law_2541 hR ⟨fun _ => g_law_2579 hR (NX _ _ H2 (by omega) _ _ _), fun z => ?_⟩
  obtain ⟨b', e, q, w⟩ := ag z
  cases e
  have e3 : UInt64.ofNat (Int.toNat (μ2 112 0 0)) = FP.f2d b := by rw [w, Int.toNat_natCast, UInt64.ofNat_toNat]
  have e4 : (Op.cmpValue (FP.dcmp (UInt64.ofNat (Int.toNat (μ2 112 0 0))) (FP.f2d b)) .l).toInt = 0 := by rw [e3, fo_n64 q]; rfl
  exact ⟨q, fun _ => g_law_2579 hR (NX _ _ H2 (by omega) _ _ _), fun v => absurd e4 v⟩
theorem law_2582 {LS W9 d : Nat} {R : ma_J} {μ : ma_M} {i : Int} {k : Nat} (hR : ma_cl (ma_Ox LS (d + 150 + 12)) (LS, [], 2, W9) (ma_at mb_law) (law_D W9) R) (H : Rel μ) (i0 : 0 ≤ i) (i1 : i + 4 ≤ LS) (hL : LS ≤ 2048) (hk : k + 3 ≤ W9) (NX : ∀ (k' : Nat) (μ' : ma_M), Rel μ' → k' ≤ k + 3 → ∀ u6 u7 u8 : ma_V, R 2595 [ma_Rf 0 0, ma_Rf 2 0, ma_Rf 69 0, ma_Rf 111 0, ma_Rf 112 0, ma_I i, u6, u7, u8] [] k' μ') : ∀ u6 u7 u8 : ma_V, R 2582 [ma_Rf 0 0, ma_Rf 2 0, ma_Rf 69 0, ma_Rf 111 0, ma_Rf 112 0, ma_I i, u6, u7, u8] [] k μ := by
  intro u6 u7 u8
  exact g_law_2582 hR ⟨by omega, Pd_kd (pr_isConsistent (d := d + 150) H) (fun b μ1 hb e1 h2 => c_law_2583 ⟨by omega, h2 _ (fun μ2 e2 H2 => c_law_2587 ⟨fun _ => NX _ _ H2 (by omega) _ _ _, fun z => absurd rfl z⟩)⟩)⟩
theorem law_loop {LS W9 d : Nat} {R : ma_J} (hR : ma_cl (ma_Ox LS (d + 150 + 12)) (LS, [], 2, W9) (ma_at mb_law) (law_D W9) R) (hL : LS ≤ 2048) : ∀ (n : Nat) (i : Int) (k : Nat) (μ : ma_M), 0 ≤ i → (LS : Int) - i ≤ n → Rel μ → k + 3 * n + 3 ≤ W9 → ∀ u6 u7 u8 : ma_V, R 28 [ma_Rf 0 0, ma_Rf 2 0, ma_Rf 69 0, ma_Rf 111 0, ma_Rf 112 0, ma_I i, u6, u7, u8] [] k μ := by
  intro n
  induction n with
  | zero =>
    intro i k μ i0 hn H hk u6 u7 u8
    exact g_law_28 hR ⟨by omega, fun _ => g_law_2601 hR ⟨rfl, by omega⟩, fun z => by omega⟩
  | succ n ih =>
    intro i k μ i0 hn H hk u6 u7 u8
    refine g_law_28 hR ⟨by omega, fun _ => g_law_2601 hR ⟨rfl, by omega⟩, fun z => ⟨by omega, fun p => ?_⟩⟩
    have i1 : i + 4 ≤ LS := by omega
    have NX : ∀ (k' : Nat) (μ' : ma_M), Rel μ' → k' ≤ k + 3 → ∀ u6 u7 u8 : ma_V, R 2595 [ma_Rf 0 0, ma_Rf 2 0, ma_Rf 69 0, ma_Rf 111 0, ma_Rf 112 0, ma_I i, u6, u7, u8] [] k' μ' := fun k' μ' H' hk' u6 u7 u8 => g_law_2595 hR ⟨by omega, ih (i + 4) k' μ' (by omega) (by omega) H' (by omega) _ _ _⟩
    refine ⟨fun _ => NX k μ H (by omega) _ _ _, fun c off ho => ?_⟩
    have hk2 : k + 3 ≤ W9 := by omega
    generalize ma_and (μ 0 0 i) 63 = z at c ho
    obtain ⟨j, rfl⟩ : ∃ j : Nat, z = (j : Int) := ⟨z.toNat, by omega⟩
    rw [Int.sub_zero, Int.toNat_natCast] at ho
    have hj : j < 41 := by omega
    clear c
    revert ho hj
    match j with
    | 0 => intro ho _; cases (Option.some.inj (show some (180 : Int) = some off from ho)); exact law_224 hR H i0 i1 hL hk2 NX _ _ _
    | 1 => intro ho _; cases (Option.some.inj (show some (224 : Int) = some off from ho)); exact law_268 hR H i0 i1 hL hk2 NX _ _ _
    | 2 => intro ho _; cases (Option.some.inj (show some (308 : Int) = some off from ho)); exact law_352 hR H i0 i1 hL hk2 NX _ _ _
    | 3 => intro ho _; cases (Option.some.inj (show some (390 : Int) = some off from ho)); exact law_434 hR H i0 i1 hL hk2 NX _ _ _
    | 4 => intro ho _; cases (Option.some.inj (show some (458 : Int) = some off from ho)); exact law_502 hR H i0 i1 hL hk2 NX _ _ _
    | 5 => intro ho _; cases (Option.some.inj (show some (514 : Int) = some off from ho)); exact law_558 hR H i0 i1 hL hk2 NX _ _ _
    | 6 => intro ho _; cases (Option.some.inj (show some (570 : Int) = some off from ho)); exact law_614 hR H i0 i1 hL hk2 NX _ _ _
    | 7 => intro ho _; cases (Option.some.inj (show some (614 : Int) = some off from ho)); exact law_658 hR H i0 i1 hL hk2 NX _ _ _
    | 8 => intro ho _; cases (Option.some.inj (show some (670 : Int) = some off from ho)); exact law_714 hR H i0 i1 hL hk2 NX _ _ _
    | 9 => intro ho _; cases (Option.some.inj (show some (733 : Int) = some off from ho)); exact law_777 hR H i0 i1 hL hk2 NX _ _ _
    | 10 => intro ho _; cases (Option.some.inj (show some (789 : Int) = some off from ho)); exact law_833 hR H i0 i1 hL hk2 NX _ _ _
    | 11 => intro ho _; cases (Option.some.inj (show some (857 : Int) = some off from ho)); exact law_901 hR H i0 i1 hL hk2 NX _ _ _
    | 12 => intro ho _; cases (Option.some.inj (show some (913 : Int) = some off from ho)); exact law_957 hR H i0 i1 hL hk2 NX _ _ _
    | 13 => intro ho _; cases (Option.some.inj (show some (969 : Int) = some off from ho)); exact law_1013 hR H i0 i1 hL hk2 NX _ _ _
    | 14 => intro ho _; cases (Option.some.inj (show some (1037 : Int) = some off from ho)); exact law_1081 hR H i0 i1 hL hk2 NX _ _ _
    | 15 => intro ho _; cases (Option.some.inj (show some (1117 : Int) = some off from ho)); exact law_1161 hR H i0 i1 hL hk2 NX _ _ _
    | 16 => intro ho _; cases (Option.some.inj (show some (1173 : Int) = some off from ho)); exact law_1217 hR H i0 i1 hL hk2 NX _ _ _
    | 17 => intro ho _; cases (Option.some.inj (show some (1217 : Int) = some off from ho)); exact law_1261 hR H i0 i1 hL hk2 NX _ _ _
    | 18 => intro ho _; cases (Option.some.inj (show some (1261 : Int) = some off from ho)); exact law_1305 hR H i0 i1 hL hk2 NX _ _ _
    | 19 => intro ho _; cases (Option.some.inj (show some (1317 : Int) = some off from ho)); exact law_1361 hR H i0 i1 hL hk2 NX _ _ _
    | 20 => intro ho _; cases (Option.some.inj (show some (1330 : Int) = some off from ho)); exact law_1374 hR H i0 i1 hL hk2 NX _ _ _
    | 21 => intro ho _; cases (Option.some.inj (show some (1386 : Int) = some off from ho)); exact law_1430 hR H i0 i1 hL hk2 NX _ _ _
    | 22 => intro ho _; cases (Option.some.inj (show some (1454 : Int) = some off from ho)); exact law_1498 hR H i0 i1 hL hk2 NX _ _ _
    | 23 => intro ho _; cases (Option.some.inj (show some (1510 : Int) = some off from ho)); exact law_1554 hR H i0 i1 hL hk2 NX _ _ _
    | 24 => intro ho _; cases (Option.some.inj (show some (1554 : Int) = some off from ho)); exact law_1598 hR H i0 i1 hL hk2 NX _ _ _
    | 25 => intro ho _; cases (Option.some.inj (show some (1619 : Int) = some off from ho)); exact law_1663 hR H i0 i1 hL hk2 NX _ _ _
    | 26 => intro ho _; cases (Option.some.inj (show some (1663 : Int) = some off from ho)); exact law_1707 hR H i0 i1 hL hk2 NX _ _ _
    | 27 => intro ho _; cases (Option.some.inj (show some (1731 : Int) = some off from ho)); exact law_1775 hR H i0 i1 hL hk2 NX _ _ _
    | 28 => intro ho _; cases (Option.some.inj (show some (1787 : Int) = some off from ho)); exact law_1831 hR H i0 i1 hL hk2 NX _ _ _
    | 29 => intro ho _; cases (Option.some.inj (show some (1831 : Int) = some off from ho)); exact law_1875 hR H i0 i1 hL hk2 NX _ _ _
    | 30 => intro ho _; cases (Option.some.inj (show some (1922 : Int) = some off from ho)); exact law_1966 hR H i0 i1 hL hk2 NX _ _ _
    | 31 => intro ho _; cases (Option.some.inj (show some (1977 : Int) = some off from ho)); exact law_2021 hR H i0 i1 hL hk2 NX _ _ _
    | 32 => intro ho _; cases (Option.some.inj (show some (2040 : Int) = some off from ho)); exact law_2084 hR H i0 i1 hL hk2 NX _ _ _
    | 33 => intro ho _; cases (Option.some.inj (show some (2103 : Int) = some off from ho)); exact law_2147 hR H i0 i1 hL hk2 NX _ _ _
    | 34 => intro ho _; cases (Option.some.inj (show some (2166 : Int) = some off from ho)); exact law_2210 hR H i0 i1 hL hk2 NX _ _ _
    | 35 => intro ho _; cases (Option.some.inj (show some (2234 : Int) = some off from ho)); exact law_2278 hR H i0 i1 hL hk2 NX _ _ _
    | 36 => intro ho _; cases (Option.some.inj (show some (2314 : Int) = some off from ho)); exact law_2358 hR H i0 i1 hL hk2 NX _ _ _
    | 37 => intro ho _; cases (Option.some.inj (show some (2377 : Int) = some off from ho)); exact law_2421 hR H i0 i1 hL hk2 NX _ _ _
    | 38 => intro ho _; cases (Option.some.inj (show some (2421 : Int) = some off from ho)); exact law_2465 hR H i0 i1 hL hk2 NX _ _ _
    | 39 => intro ho _; cases (Option.some.inj (show some (2472 : Int) = some off from ho)); exact law_2516 hR H i0 i1 hL hk2 NX _ _ _
    | 40 => intro ho _; cases (Option.some.inj (show some (2538 : Int) = some off from ho)); exact law_2582 hR H i0 i1 hL hk2 NX _ _ _
    | j + 41 => intro _ hj; omega
