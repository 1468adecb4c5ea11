/-! begun: its contract -/
def bg_LV (k : Nat) : Bool := decide (k = 0 ∨ k = 1 ∨ k = 69)
/-- the world with the object -/
def bg_mk (G : ma_G) (h : Nat) : ma_G := (fun k r => if k < 2 ∨ k = 69 then G.ad k r else h + (co_off k + r.toNat), G.dA, G.dC, G.dI, G.h0, G.LS, fun k => decide (k < 70))
def bg_G (G G' : ma_G) : Prop := (∀ (k : Nat) (r : Int), k < 2 ∨ k = 69 → G'.ad k r = G.ad k r) ∧ G'.dA = G.dA ∧ G'.dC = G.dC ∧ G'.dI = G.dI ∧ G'.h0 = G.h0 ∧ G'.LS = G.LS ∧ (∀ k, G'.lv k = decide (k < 70)) ∧ ma_AD G'
def bg_mu (μ : ma_M) : ma_M := fun k r i => if k < 2 ∨ k = 69 then μ k r i else 0
theorem bg_row : ∀ a, a < 71 → ((ma_ck a).1 = 5 ∨ (ma_ck a).1 = 6) → decide (a < 70) = true → decide (a + 1 < 70) = true := by decide +kernel
theorem bg_k56 : ∀ k, k < 71 → ((ma_ck k).1 = 5 ∨ (ma_ck k).1 = 6) → k + 1 < 69 := by decide +kernel
theorem bg_rows : ∀ k, k < 71 → (k < 2 ∨ k = 69) → (ma_ck k).2.2 = 1 := by decide +kernel
theorem bg_mkG {G : ma_G} {h : Nat} (hA : ma_AD G) (hlv : ∀ k, G.lv k = bg_LV k) (hlt : ∀ (k : Nat) (r : Int), ma_val G k r → G.ad k r < h) (h0 : G.h0 ≤ h) : bg_G G (bg_mk G h) := by
  have lv0 : ∀ {k : Nat} {r : Int}, ma_val (bg_mk G h) k r → k < 70 := fun {k r} z => of_decide_eq_true z.2.2.2
  have vo : ∀ {k : Nat} {r : Int}, (k < 2 ∨ k = 69) → ma_val (bg_mk G h) k r → ma_val G k r := fun {k r} hk z => ⟨z.1, z.2.1, z.2.2.1, by rw [hlv]; exact decide_eq_true (by omega)⟩
  have vc : ∀ {k : Nat} {r : Int}, ¬ (k < 2 ∨ k = 69) → ma_val (bg_mk G h) k r → co_val k r := fun {k r} hk z => ⟨by have := lv0 z; omega, z.2.1, z.2.2.1⟩
  have ad : ∀ (k : Nat) (r : Int), (bg_mk G h).ad k r = if k < 2 ∨ k = 69 then G.ad k r else h + (co_off k + r.toNat) := fun _ _ => rfl
  refine ⟨fun k r hk => by rw [ad, if_pos hk], rfl, rfl, rfl, rfl, rfl, fun k => rfl, ⟨fun k k' r r' hv hv' e => ?_, fun k r hv h2 => ?_, hA.2.2.1, rfl, rfl, fun a h5 hl => ?_⟩⟩
  · rw [ad, ad] at e
    by_cases c : k < 2 ∨ k = 69
    · rw [if_pos c] at e
      by_cases c' : k' < 2 ∨ k' = 69
      · rw [if_pos c'] at e
        exact hA.1 k k' r r' (vo c hv) (vo c' hv') e
      · rw [if_neg c'] at e
        have := hlt k r (vo c hv)
        omega
    · rw [if_neg c] at e
      by_cases c' : k' < 2 ∨ k' = 69
      · rw [if_pos c'] at e
        have := hlt k' r' (vo c' hv')
        omega
      · rw [if_neg c'] at e
        exact st_inj (vc c hv) (vc c' hv') (by omega) (by omega) (by omega)
  · rw [ad]
    by_cases c : k < 2 ∨ k = 69
    · rw [if_pos c]; exact hA.2.1 k r (vo c hv) h2
    · rw [if_neg c]
      show G.h0 ≤ _
      omega
  · have hl' : decide (a < 70) = true := hl
    exact bg_row a (by have := of_decide_eq_true hl'; omega) h5 hl'
theorem bg_KX {G G' : ma_G} {U : State} (h : bg_G G G') (K : ma_KX G U) : ma_KX G' U := by
  obtain ⟨K1, K2, K3, K4⟩ := K
  have hA : ma_A G' = ma_A G := by unfold ma_A; rw [h.2.2.2.2.1]
  refine ⟨?_, h.2.2.2.2.2.2.2, by rw [h.2.2.2.2.1]; exact K3, ?_⟩
  · unfold ma_KK at K1 ⊢
    rw [h.2.1, h.2.2.1, h.2.2.2.1]
    exact K1
  · unfold ma_EX at K4 ⊢
    rw [hA, h.1 1 0 (.inl (by decide))]
    exact K4
theorem bg_Cx {p : Program} {s : State} {m : MethodId} {args : Array Value} {c : Code} {G G' : ma_G} {cc : ByteArray} {o nL : Nat} (h : bg_G G G') (C : ma_Cx p s m args c G cc o nL) : ma_Cx p s m args c G' cc o nL := by
  have K := bg_KX h (U := s) ⟨C.2.2.2.2.2.1, C.2.2.2.2.2.2.1, C.2.2.2.2.2.2.2.1, C.2.2.2.2.2.2.2.2⟩
  exact ⟨C.1, C.2.1, C.2.2.1, C.2.2.2.1, C.2.2.2.2.1, K.1, K.2.1, K.2.2.1, K.2.2.2⟩
theorem bg_Ex {G G' : ma_G} {U : State} (h : bg_G G G') (K : co_Ex G U) : co_Ex G' U := by
  unfold co_Ex at K ⊢
  rw [h.2.1]
  exact K
/-- the heap holds the new memory -/
theorem bg_HR {G : ma_G} {U : State} {H H1 : Heap} {μ : ma_M} (K : co_KX (nw_G G H.size) U) (hlv : ∀ k, G.lv k = bg_LV k) (h : ma_HR G U μ H) (ho : ∀ q : Nat, q < H.size → H1[q]? = H[q]?) (hH : co_H (nw_G G H.size) co_F H1) : ma_HR (bg_mk G H.size) U (bg_mu μ) H1 := by
  have h1 := nw_HR K ⟨by rw [hlv]; rfl, by rw [hlv]; rfl⟩ h ho hH
  intro k r hv
  have hk : k < 70 := of_decide_eq_true hv.2.2.2
  by_cases c : k = 69
  · subst c
    have hv0 : ma_val G 69 r := ⟨hv.1, hv.2.1, hv.2.2.1, by rw [hlv]; rfl⟩
    obtain ⟨g1, -, -, -⟩ := h 69 r hv0
    have ead : (bg_mk G H.size).ad 69 r = G.ad 69 r := by
      show (if (69 : Nat) < 2 ∨ (69 : Nat) = 69 then G.ad 69 r else H.size + (co_off 69 + r.toNat)) = G.ad 69 r
      exact if_pos (Or.inr rfl)
    have emu : bg_mu μ 69 = μ 69 := by
      funext a b
      show (if (69 : Nat) < 2 ∨ (69 : Nat) = 69 then μ 69 a b else 0) = μ 69 a b
      exact if_pos (Or.inr rfl)
    rw [ead, emu]
    refine ⟨fun z => ⟨?_, (g1 z).2⟩, fun z => absurd z (by decide), fun z => absurd z (by decide), fun ci z => ?_⟩
    · rw [ho _ (Array.getElem?_eq_some_iff.mp (g1 z).1).1]; exact (g1 z).1
    · have : (0 : Nat) = 10 + ci := z
      omega
  · have hv1 : ma_val (nw_G G H.size) k r := ⟨hv.1, hv.2.1, hv.2.2.1, decide_eq_true (by omega)⟩
    have e : ∀ (k' : Nat) (r' : Int), k' ≠ 69 → (bg_mk G H.size).ad k' r' = (nw_G G H.size).ad k' r' := fun k' r' hk' => by
      show (if k' < 2 ∨ k' = 69 then G.ad k' r' else H.size + (co_off k' + r'.toNat)) = (if k' < 2 then G.ad k' r' else H.size + (co_off k' + r'.toNat))
      by_cases c2 : k' < 2
      · rw [if_pos (.inl c2), if_pos c2]
      · rw [if_neg (by omega), if_neg c2]
    have emu : bg_mu μ k = nw_mu μ k := by
      funext a b
      show (if k < 2 ∨ k = 69 then μ k a b else 0) = (if k < 2 then μ k a b else 0)
      by_cases c2 : k < 2
      · rw [if_pos (.inl c2), if_pos c2]
      · rw [if_neg (by omega), if_neg c2]
    obtain ⟨g1, g2, g3, g4⟩ := h1 k r hv1
    rw [e k r c, emu]
    refine ⟨g1, fun z => ?_, g3, fun ci z => ?_⟩
    · have k69 := bg_k56 k hv.1 z
      have e2 : (fun j : Nat => Value.ref ((bg_mk G H.size).ad (k + 1) j)) = fun j : Nat => Value.ref ((nw_G G H.size).ad (k + 1) j) := by
        funext j; rw [e (k + 1) j (Nat.ne_of_lt k69)]
      rw [e2]
      exact g2 z
    · obtain ⟨q1, q3⟩ := g4 ci z
      have k69 := mv_k56 k hv.1 (.inr (.inr (by rw [z]; omega)))
      have hci : ci < 11 := by rcases mv_kk k hv.1 with y | y | y | y | y | y <;> omega
      have rf : ∀ f, f < ma_N ci → ma_fk ci f = 3 → ma_rf k f < 69 := fun f hf h3 => (co_rf_val ci hci k k69.1 z f hf h3).1
      have no4 : ∀ f, f < ma_N ci → ma_fk ci f ≠ 4 := fun f hf => st_no4 ci hci f (Nat.lt_of_lt_of_le hf (co_N60 ci hci))
      refine ⟨q1.to (fun f hf => ?_), fun f hf => ?_⟩
      · unfold ma_fv
        rw [emu]
        by_cases f1 : ma_fk ci f = 1
        · rw [if_pos f1, if_pos f1]
        · rw [if_neg f1, if_neg f1]
          by_cases f3 : ma_fk ci f = 3
          · rw [if_pos f3, if_pos f3, e _ _ (by have := rf f hf f3; omega)]
          · rw [if_neg f3, if_neg f3, if_neg (no4 f hf), if_neg (no4 f hf)]
      · have q := q3 f hf
        unfold ma_fcan at q ⊢
        by_cases f1 : ma_fk ci f = 1
        · rw [if_pos f1] at q ⊢; exact q
        · rw [if_neg f1] at q ⊢
          by_cases f3 : ma_fk ci f = 3
          · rw [if_pos f3] at q ⊢
            exact ⟨q.1, q.2.1, q.2.2.1, decide_eq_true (by have := rf f hf f3; omega)⟩
          · rw [if_neg f3, if_neg (no4 f hf)] at q ⊢; exact q
/-- the contract of begun -/
def bg_Pc (G : ma_G) (μ : ma_M) : Array Value → State → Prop := fun v U => ma_Pc G [ma_Rf 0 0, ma_Rf 69 0] μ v U ∧ co_Ex G U
theorem bg_blind (G : ma_G) (μ : ma_M) : FrameBlind (bg_Pc G μ) := fun s f v a h => ⟨ma_blind _ _ _ s f v a h.1, h.2.blind⟩
def bg_B (u : ma_G × ma_M) (a : Nat) (t : State) : Prop := a = u.1.ad 2 0 ∧ ma_HR u.1 t u.2 t.heap
def bg_rm : Room := { frames := 20, cells := 700, slots := 23000, locals := 700 }
def bg_Ct (l : Launch) (G : ma_G) (μ : ma_M) (PB : ma_M → Prop) : Prop := Met l (ma_y mi_LatticefitLaw_begun) (ma_cw mi_LatticefitLaw_begun :: ma_WG) bg_rm (bg_Pc G μ) (va_Qr (S := ma_G × ma_M) (fun u => bg_G G u.1 ∧ PB u.2) bg_B (ma_A G)) 700 23000 (ma_A G)
def bg_X (PB : ma_M → Prop) : ma_J := fun pc ls st k μ => pc = 467 ∧ k ≤ 400 ∧ st = [] ∧ ls.getD 2 ma_U = ma_Rf 2 0 ∧ PB μ
set_option maxHeartbeats 2000000 in
theorem bg_Met (l : Launch) (hls : l.stackTraces = false) (G : ma_G) (hLS : G.LS ≤ 2048) (hlv : ∀ k, G.lv k = bg_LV k) {μ : ma_M} {PB : ma_M → Prop} (h : ma_rx (ma_Ox G.LS 8) (G.LS, [], 9, 400) (ma_at mb_LatticefitLaw_begun) (ma_DD (G.LS, [], 9, 400) ma_nP) (bg_X PB) 7 [ma_Rf 0 0, ma_Rf 69 0, ma_U, ma_U, ma_U, ma_U, ma_U, ma_U] [ma_Rf 2 0] 0 (bg_mu μ)) : bg_Ct l G μ PB := by
  have hy : mi_LatticefitLaw_begun < ma_nM := by decide
  obtain ⟨hplain, hmh, hvh, hpar, hnl⟩ := ma_cls_ok _ hy
  unfold bg_Ct
  refine Met.ofW hplain (ws' := ma_WG) (cc := ma_b mi_LatticefitLaw_begun) (maxL := 8) (ret := ma_ret mi_LatticefitLaw_begun) rfl ?_
  intro p e s m args below meth c s₁ B hml hPc
  obtain ⟨⟨⟨vl, rfl, hRS⟩, hH, hKX⟩, hEx⟩ := hPc
  have hts := atoms_spec (ws := ma_cw mi_LatticefitLaw_begun :: ma_WG) B.pre
  have hown : s.vm.findClass "LatticefitLaw" = some m.cls := findClass_of_methodNamed B.named
  have C : ma_Cx p s m vl.toArray c G (ma_b mi_LatticefitLaw_begun) 11 8 := ⟨B.exec, B.bytes, hml, hown, fun w hw => hts w (List.mem_cons_of_mem _ hw), hKX.1, hKX.2.1, hKX.2.2.1, hKX.2.2.2⟩
  have hr := B.returns
  have hlocks := B.notSynchronized
  rw [lg_entry_eq]
  have hRL : ma_RL G 8 (ma_entry 8 [ma_Rf 0 0, ma_Rf 69 0]) ((lg_sl vl ++ List.replicate (8 - (lg_sl vl).length) Slot.unset).toArray) := ma_entry_RL hRS rfl (by decide)
  generalize (lg_sl vl ++ List.replicate (8 - (lg_sl vl).length) Slot.unset).toArray = als at hRL
  have v0 : ma_val G 0 0 := ⟨by decide, by decide, by decide, by rw [hlv]; rfl⟩
  have v1 : ma_val G 1 0 := ⟨by decide, by decide, by decide, by rw [hlv]; rfl⟩
  refine nw_obj (p := p) (l := l) (e := e) (R := (headSpec (ma_cw mi_LatticefitLaw_begun :: ma_WG) bg_rm).room) (cells := 0) (slots := 0) C hml.symm hEx (i := 10) (j := 126) (by decide) (by decide) (show decode (ma_b mi_LatticefitLaw_begun) 0 = .ok (.new 10, 3) by decide +kernel) (show decode (ma_b mi_LatticefitLaw_begun) (0 + 3) = .ok (.dup, 1) by decide +kernel) (show decode (ma_b mi_LatticefitLaw_begun) (0 + 4) = .ok (.invokespecial 126, 3) by decide +kernel) ⟨by show 15 ≤ 20; omega, by show 415 ≤ 700; omega⟩ (by show 0 + 281 ≤ 700; omega) (by show 0 + 20000 ≤ 23000; omega) va_S.rf (mv_lt hH v0) (mv_lt hH v1) hRL.2.1 (by decide) (fun H1 locs1 hH1 hz1 ho1 hS1 => ?_)
  have hG : bg_G G (bg_mk G s.heap.size) := bg_mkG hKX.2.1 hlv (fun k r hv => mv_lt hH hv) hKX.2.2.1
  have K := nw_KX (h := s.heap.size) hKX.1 hKX.2.1 hEx (mv_lt hH v0) (mv_lt hH v1) (Nat.le_refl _)
  have hHR : ma_HR (bg_mk G s.heap.size) s (bg_mu μ) H1 := bg_HR K hlv hH ho1 hH1
  have C' := bg_Cx hG C
  have hA : ma_A (bg_mk G s.heap.size) = ma_A G := rfl
  have a69 : ∀ (r : Int), (bg_mk G s.heap.size).ad 69 r = G.ad 69 r := fun r => hG.1 69 r (.inr rfl)
  have hRL' : ma_RL (bg_mk G s.heap.size) 8 [ma_Rf 0 0, ma_Rf 69 0, ma_U, ma_U, ma_U, ma_U, ma_U, ma_U] als := ⟨rfl, hRL.2.1, hRL.2.2.1, fun i v hv => by
    match i, hv with
    | 0, hv =>
      cases hv
      rcases hRL.2.2.2 0 (ma_Rf 0 0) rfl with z | ⟨w, z1, z2, z3⟩
      · exact absurd z ma_neU_R
      · exact Or.inr ⟨w, z1, z2, z3.1, z3.2.1, z3.2.2.1, rfl⟩
    | 1, hv =>
      cases hv
      rcases hRL.2.2.2 1 (ma_Rf 69 0) rfl with z | ⟨w, z1, z2, z3⟩
      · exact absurd z ma_neU_R
      · exact Or.inr ⟨w, z1, z2, z3.1, z3.2.1, z3.2.2.1, rfl⟩
    | 2, hv => cases hv; exact Or.inl rfl
    | 3, hv => cases hv; exact Or.inl rfl
    | 4, hv => cases hv; exact Or.inl rfl
    | 5, hv => cases hv; exact Or.inl rfl
    | 6, hv => cases hv; exact Or.inl rfl
    | 7, hv => cases hv; exact Or.inl rfl
    | i + 8, hv => simp at hv⟩
  have ad2 : (bg_mk G s.heap.size).ad 2 0 = s.heap.size := by
    show (if (2 : Nat) < 2 ∨ (2 : Nat) = 69 then G.ad 2 0 else s.heap.size + (co_off 2 + (0 : Int).toNat)) = _
    rw [if_neg (by decide)]; rfl
  have hRS' : ma_RS (bg_mk G s.heap.size) [ma_Rf 2 0] [.ref s.heap.size] := ⟨⟨by show Value.ref _ = Value.ref ((bg_mk G s.heap.size).ad 2 0); rw [ad2], ⟨by decide, by decide, by decide, rfl⟩⟩, trivial⟩
  have main := ma_s_rx (p := p) (l := l) (e := e) (R := (headSpec (ma_cw mi_LatticefitLaw_begun :: ma_WG) bg_rm).room) (below := below) (meth := meth) (Q := MQ below (va_Qr (S := ma_G × ma_M) (fun u => bg_G G u.1 ∧ PB u.2) bg_B (ma_A G)) vl.toArray s 700 23000 (ma_A G)) (c0 := 281) (s0 := 20000) (d := 8) (E := (G.LS, [], 9, 400)) (D := ma_DD (G.LS, [], 9, 400) ma_nP) (O := ma_Ox G.LS 8) (X := bg_X PB) C' hml.symm ⟨rfl, hLS⟩ bg_chk ⟨by show 8 + 11 ≤ 20; omega, by show 43 * (8 + 1) + 200 ≤ 700; omega⟩ ⟨by show 10 ≤ 20; omega, by show 200 ≤ 700; omega, by show 281 + 400 ≤ 700; omega, by show 20000 + 6 * 400 ≤ 23000; omega⟩ (ma_Ct_all l hls (bg_mk G s.heap.size) hLS 8) (ma_hX_nil rfl) ma_hE_no ?_ h H1 locs1 als [.ref s.heap.size] hHR (by rw [hA]; exact hS1) hRL' hRS'
  · exact main
  · intro pc ls st k μ' hx
    obtain ⟨rfl, hk, rfl, hg, hp⟩ := hx
    intro H locs als vs hH2 hS2 hL2 hR2
    cases ma_RS_nil hR2
    obtain ⟨w, g1, g2⟩ := hL2.get hg ma_neU_R
    obtain ⟨rfl, -⟩ := g2
    refine lv_aload_n (i := 2) C.1 C.2.1 (show decode (ma_b mi_LatticefitLaw_begun) 467 = .ok (.aload_n 2, 1) by decide +kernel) rfl g1 ?_
    refine lv_goto (tgt := 472) C.1 C.2.1 (show decode (ma_b mi_LatticefitLaw_begun) 468 = .ok (.goto 4, 3) by decide +kernel) (by decide) ?_
    refine W.widen (k := 700) (n := 23000) (by omega) (by omega) ?_
    refine W.aret (v := .ref ((bg_mk G s.heap.size).ad 2 0)) C.1 C.2.1 hr (Or.inl ⟨_, rfl⟩) (Or.inr ⟨_, rfl⟩) (fun t ht hW => ⟨⟨(bg_mk G s.heap.size, μ'), _, rfl, ⟨hG, hp⟩, rfl, by show ma_HR _ t μ' t.heap; rw [ht]; exact ma_HR.moved hW.alike hH2⟩, hS2.F ht⟩) hS2.2.2 (show decode (ma_b mi_LatticefitLaw_begun) 472 = .ok (.areturn, 1) by decide +kernel) (hlocks := hlocks)
