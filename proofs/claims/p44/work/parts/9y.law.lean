/-! the law's body from its entry: what is owed of begun, of a new object's map, of the run behind them -/
/-- the law's end: true, within its room -/
def law_D (W9 : Nat) : ma_Dn := fun r k _ => r = .inl (some (ma_I 1)) ∧ k ≤ W9
def law_sites : List (Nat × Nat × Nat) := [(308, 189, mi_LatticefitLaw_ticks), (335, 196, mi_LatticefitLaw_areOutputs), (425, 196, mi_LatticefitLaw_areOutputs), (458, 196, mi_LatticefitLaw_areOutputs)]
theorem law_sites_ok : law_sites.all (mv_sok code) = true := by decide +kernel
theorem law_chk : ma_chk code 11 13 mb_law = true := by decide +kernel
theorem law_own : ma_own 11 = "LatticefitLaw" := rfl
/-- the world of a new object beside another one -/
theorem nw_KX2 {G : ma_G} {U : State} {h : Nat} (K : ma_KX G U) (a0 : G.ad 0 0 < h) (a1 : G.ad 1 0 < h) (h0 : G.h0 ≤ h) (hz : h ≤ U.heap.size) : ma_KX (nw_G G h) U := by
  obtain ⟨K1, K2, K3, e1, e2, e3, e4, e5⟩ := K
  have hn : ∀ q, ma_A (nw_G G h) q → ma_A G q := fun q z => by have z : h ≤ q := z; exact Nat.le_trans h0 z
  exact ⟨K1, nw_AD K2 a0 a1, hz, e1, e2.narrow hn, e3.narrow hn, e4.narrow hn, e5⟩
set_option maxHeartbeats 4000000 in
set_option maxRecDepth 100000 in
theorem law_W {p : Program} {e : Env} {s : State} {m : MethodId} {below : List Frame} {meth : Method} {c : Code} (l : Launch) (hflags : l.flags = flags0) {b L W9 : Nat} {xs : Nat → Int32} {PB : ma_M → Prop} (hL : L ≤ 260) (hW9 : W9 ≤ 5000) (C0 : lw_At p s m meth c b L xs)
    (hbg : ∀ G : ma_G, G.LS = L → (∀ k, G.lv k = bg_LV k) → ma_rx (ma_Ox G.LS 8) (G.LS, [], 9, 400) (ma_at mb_LatticefitLaw_begun) (ma_DD (G.LS, [], 9, 400) ma_nP) (bg_X PB) 7 [ma_Rf 0 0, ma_Rf 69 0, ma_U, ma_U, ma_U, ma_U, ma_U, ma_U] [ma_Rf 2 0] 0 (bg_mu (lw_mu xs)))
    (hmap : ∀ μ : ma_M, ma_Ox L 8 mi_LatticefitLaw_map [ma_Rf 2 0] (nw_mu μ) (fun r _ => r = .inl (some (ma_I (-900001)))))
    (hrun : ∀ μ : ma_M, PB μ → mv_run (ma_Ox L 10) (mv_O l L 10) W9 law_sites (L, [], 2, W9) (ma_at mb_law) (law_D W9) 33 [ma_Rf 0 0, ma_Rf 69 0, ma_Rf 2 0, ma_U, ma_U, ma_U, ma_U, ma_U, ma_U, ma_U, ma_U, ma_U, ma_U] [] 0 μ) : W p l e room_1 s m #[Value.ref b] below meth c s.heap [] 0 0 (lw_Z below #[Value.ref b] s) (entryFrame m ([Value.ref b] : List Value).toArray 13) := by
  obtain ⟨hx, hb, hr, hml, hown, hts, hX, hbl, hlocks, hgv⟩ := id C0
  have hls : l.stackTraces = false := by
    unfold Launch.stackTraces
    rw [hflags]
    decide
  have htg : ∀ w ∈ ma_WG, w.before #[Value.ref b] s = true := fun w hw => hts w (List.mem_filter.mp hw).1
  obtain ⟨G, pt, g1, g2, g3, g4, g5, hlv, hpl, K, E, hpat⟩ := st_G rfl hL hts hX hbl hgv
  have hown9 : s.vm.findClass (ma_own 11) = some m.cls := hown
  have C : ma_Cx p s m #[Value.ref b] c G code 11 13 := ⟨hx, hb, hml, hown9, htg, K.1, K.2.1, K.2.2.1, K.2.2.2⟩
  have hLS : G.LS ≤ 2048 := by rw [g2]; omega
  have v0 : ma_val G 0 0 := ⟨by decide, by decide, by decide, by rw [hlv]; rfl⟩
  have v1 : ma_val G 1 0 := ⟨by decide, by decide, by decide, by rw [hlv]; rfl⟩
  have v69 : ma_val G 69 0 := ⟨by decide, by decide, by decide, by rw [hlv]; rfl⟩
  rw [lg_entry_eq]
  have hRS0 : ma_RS G [ma_Rf 0 0] [Value.ref b] := ⟨⟨by rw [← g3], v0⟩, trivial⟩
  have hRL : ma_RL G 13 (ma_entry 13 [ma_Rf 0 0]) ((lg_sl [Value.ref b] ++ List.replicate (13 - (lg_sl [Value.ref b]).length) Slot.unset).toArray) := ma_entry_RL hRS0 rfl (by decide)
  generalize (lg_sl [Value.ref b] ++ List.replicate (13 - (lg_sl [Value.ref b]).length) Slot.unset).toArray = als at hRL
  -- the row of the law
  refine lv_sipush hx hb (show decode code 0 = .ok (.sipush 430, 3) by decide +kernel) rfl ?_
  refine va_newaK (atype := .int) (g := F0 m 3 als [.int 430]) (N := 430) (rest := []) hx hb (htg _ (co_ac_w 0 (by decide))) rfl (show decode code 3 = .ok (.newarray .int, 2) by decide +kernel) rfl (by decide) (by decide) (by decide) (Nat.le_of_ble_eq_true rfl) (Nat.le_of_ble_eq_true rfl) rfl (fun H1 cA e1 e2 e3 e4 e5 => ?_)
  have ecA : H1[s.heap.size]? = some (arrV (G.dA 0) 430 (fun _ => .int 0)) := by
    rw [e1]
    have : cA = G.dA 0 := Option.some.inj (e5.symm.trans K.1.2.1)
    rw [this]; rfl
  have hHR : ma_HR G s (lw_mu xs) H1 := by
    obtain ⟨pcell, p1, p2⟩ := hpat
    exact lw_HR g2 g3 g4 g5 hlv (hX.kept (e3 b hbl)) ⟨pcell, by rw [e3 pt hpl]; exact p1, p2⟩ ecA
  have hS1 : va_S (ma_A G) s.heap H1 [] := ⟨by omega, fun q h1 _ => e3 q h1, fun _ z => by cases z⟩
  have den : ∀ (G' : ma_G) (C' : ma_Cx p s m #[Value.ref b] c G' code 11 13) (cs : List ma_AI) (pc k c0 s0 : Nat) (ls st : List ma_V) (J : ma_J) (μ : ma_M), G'.LS = L → c0 ≤ 1000 → s0 ≤ 50000 → ma_okB code 11 cs pc = true → (∀ pc ls st k μ, J pc ls st k μ → ma_W p l e room_1 s m #[Value.ref b] below meth c (lw_Z below #[Value.ref b] s) G' 13 c0 s0 pc ls st k μ) → ma_den (fun _ _ _ _ => False) (L, [], 2, W9) cs pc ls st k μ J (ma_DD (L, [], 2, W9) ma_nP) → ma_W p l e room_1 s m #[Value.ref b] below meth c (lw_Z below #[Value.ref b] s) G' 13 c0 s0 pc ls st k μ :=
    fun G' C' cs pc k c0 s0 ls st J μ hl9 hc0 hs0 hok hJ hd => ma_s_den (d := 0) C' hml.symm ⟨hl9.symm, by omega⟩ ⟨Nat.le_of_ble_eq_true rfl, Nat.le_of_ble_eq_true rfl⟩ ⟨Nat.le_of_ble_eq_true rfl, Nat.le_of_ble_eq_true rfl, by show c0 + W9 ≤ 600390; omega, by show s0 + 6 * W9 ≤ 7291200; omega⟩ (fun _ _ _ _ h => h.elim) (ma_hX_nil rfl) ma_hE_no hJ cs pc ls st k μ hok hd
  have hRS1 : ma_RS G [ma_Rf 69 0] [.ref s.heap.size] := ⟨⟨by show Value.ref _ = Value.ref (G.ad 69 0); rw [g5], v69⟩, trivial⟩
  refine W.widen (k := 1 + 0) (n := 430 + 6 * 0) (by omega) (by omega) (den G C [(1, .astore_n 1, 0, 0), (1, .aload_n 0, 0, 0), (1, .aload_n 1, 0, 0)] 5 0 1 430 (ma_entry 13 [ma_Rf 0 0]) [ma_Rf 69 0] (fun pc ls st k μ => pc = 8 ∧ ls = [ma_Rf 0 0, ma_Rf 69 0, ma_U, ma_U, ma_U, ma_U, ma_U, ma_U, ma_U, ma_U, ma_U, ma_U, ma_U] ∧ st = [ma_Rf 69 0, ma_Rf 0 0] ∧ k = 0 ∧ μ = lw_mu xs) (lw_mu xs) g2 (by omega) (by omega) (by decide +kernel) ?_ ⟨by decide, rfl, rfl, rfl, rfl, rfl⟩ H1 [] als _ hHR hS1 hRL hRS1)
  intro pc ls st k μ hj
  obtain ⟨rfl, rfl, rfl, rfl, rfl⟩ := hj
  intro H2 locs2 als2 vs2 hH2 hS2 hL2 hR2
  -- begun
  obtain ⟨hplain2, hmh2, hvh2, hpar2, hnl2⟩ := ma_cls_ok mi_LatticefitLaw_begun (by decide)
  have hq : (11, 160, mi_LatticefitLaw_begun) ∈ ma_ml := by decide
  have hlink := htg _ (ma_WG_in (ma_ml_in _ (List.mem_map.mpr ⟨_, hq, rfl⟩)) (ma_ml_good _ (List.mem_map.mpr ⟨_, hq, rfl⟩)))
  have hsw : (Cond.static (ma_y mi_LatticefitLaw_begun)).before #[Value.ref b] s = true := htg _ (ma_sw_ok mi_LatticefitLaw_begun (by decide))
  have hgi := ma_goodIn (y := mi_LatticefitLaw_begun) (by decide)
  have hini := htg _ (ma_iw_ok mi_LatticefitLaw_begun (by decide))
  have hpre : PreS s H2 (bg_Pc G (lw_mu xs)) vs2.reverse := ⟨bg_blind _ _, fun U hU hW => ⟨⟨⟨_, rfl, ma_RS_rev hR2⟩, by rw [hU]; exact hH2.moved hW.alike, ma_KX.moved hW (by rw [hU]; exact hS2) K⟩, E.moved hW⟩⟩
  have hM := bg_Met l hls G hLS hlv (μ := lw_mu xs) (PB := PB) (hbg G g2 hlv)
  have hcw2 : ma_cw mi_LatticefitLaw_begun = Cond.code (ma_y mi_LatticefitLaw_begun) (ma_b mi_LatticefitLaw_begun) 8 (ma_ret mi_LatticefitLaw_begun) := rfl
  unfold bg_Ct at hM
  rw [hcw2] at hM hgi
  have hrun1 := va_runS (p := p) (l := l) (e := e) (R := room_1) (below := below) (meth := meth) (cells := 1) (slots := 430) (locs := locs2) (H := H2) (g := F0 m 8 als2 vs2) (rest := []) (As := vs2.reverse) (mc := 700) (ms := 23000) (nL := 13) (Ts := ma_WG)
    ⟨hx, hb, hml, hown9, htg⟩ hM ⟨callB_of 2 htg hgi rfl rfl rfl hini hlink ⟨hmh2, hvh2, hpar2⟩ ⟨Nat.le_of_ble_eq_true rfl, Nat.le_of_ble_eq_true rfl⟩, hsw⟩ hpre rfl (by rw [List.length_reverse, ma_RS_len hR2]; rfl) hL2.2.1 (by rw [List.reverse_reverse, List.append_nil]) (by show 2 * 0 + 0 ≤ 8; omega) (show decode code 8 = .ok (.invokestatic 160, 3) by decide +kernel) ⟨Nat.le_of_ble_eq_true rfl, Nat.le_of_ble_eq_true rfl⟩
  refine W.widen (k := 1) (n := 430) (by omega) (by omega) (va_callr (A0 := ma_A G) (H0 := s.heap) hrun1 hS2 (fun _ _ z => z) (fun _ z => z) (fun u ra tt H3 locs3 h1 h2 h3 h4 h5 h6 h7 => ?_))
  obtain ⟨G', μ'⟩ := u
  obtain ⟨hG, hpb⟩ := h3
  obtain ⟨rfl, hHR3⟩ := h4
  have hG : bg_G G G' := hG
  have hpb : PB μ' := hpb
  have hHR3 : ma_HR G' s μ' H3 := by rw [← h1]; exact ma_HR.moved h2.symm hHR3
  have C' := bg_Cx hG C
  have K' := bg_KX hG K
  have E' := bg_Ex hG E
  have hA' : ma_A G' = ma_A G := by unfold ma_A; rw [hG.2.2.2.2.1]
  have hLS' : G'.LS = L := hG.2.2.2.2.2.1.trans g2
  have lv' : ∀ k, k < 70 → G'.lv k = true := fun k hk => by rw [hG.2.2.2.2.2.2.1]; exact decide_eq_true hk
  have hS3 : va_S (ma_A G') s.heap H3 locs3 := by rw [hA']; exact h7
  have hRL3 : ma_RL G' 13 [ma_Rf 0 0, ma_Rf 69 0, ma_U, ma_U, ma_U, ma_U, ma_U, ma_U, ma_U, ma_U, ma_U, ma_U, ma_U] als2 := ⟨rfl, hL2.2.1, hL2.2.2.1, fun i v hv => by
    rcases hL2.2.2.2 i v hv with z | ⟨w, z1, z2⟩
    · exact Or.inl z
    · match i, hv with
      | 0, hv => cases hv; exact Or.inr ⟨w, z1, by rw [hG.1 0 0 (.inl (by decide))]; exact z2.1, z2.2.1, z2.2.2.1, z2.2.2.2.1, lv' 0 (by decide)⟩
      | 1, hv => cases hv; exact Or.inr ⟨w, z1, by rw [hG.1 69 0 (.inr rfl)]; exact z2.1, z2.2.1, z2.2.2.1, z2.2.2.2.1, lv' 69 (by decide)⟩
      | 2, hv => cases hv; exact Or.inl rfl
      | 3, hv => cases hv; exact Or.inl rfl
      | 4, hv => cases hv; exact Or.inl rfl
      | 5, hv => cases hv; exact Or.inl rfl
      | 6, hv => cases hv; exact Or.inl rfl
      | 7, hv => cases hv; exact Or.inl rfl
      | 8, hv => cases hv; exact Or.inl rfl
      | 9, hv => cases hv; exact Or.inl rfl
      | 10, hv => cases hv; exact Or.inl rfl
      | 11, hv => cases hv; exact Or.inl rfl
      | 12, hv => cases hv; exact Or.inl rfl
      | i + 13, hv => simp at hv⟩
  have hRS3 : ma_RS G' [ma_Rf 2 0] [.ref (G'.ad 2 0)] := ⟨⟨rfl, ⟨by decide, by decide, by decide, lv' 2 (by decide)⟩⟩, trivial⟩
  refine W.widen (k := 701 + 0) (n := 23430 + 6 * 0) (by omega) (by omega) (den G' C' [(1, .astore_n 2, 0, 0), (1, .aload_n 2, 0, 0)] 11 0 701 23430 [ma_Rf 0 0, ma_Rf 69 0, ma_U, ma_U, ma_U, ma_U, ma_U, ma_U, ma_U, ma_U, ma_U, ma_U, ma_U] [ma_Rf 2 0] (fun pc ls st k μ => pc = 13 ∧ ls = [ma_Rf 0 0, ma_Rf 69 0, ma_Rf 2 0, ma_U, ma_U, ma_U, ma_U, ma_U, ma_U, ma_U, ma_U, ma_U, ma_U] ∧ st = [ma_Rf 2 0] ∧ k = 0 ∧ μ = μ') μ' hLS' (by omega) (by omega) (by decide +kernel) ?_ ⟨by decide, rfl, rfl, rfl, rfl, rfl⟩ H3 locs3 als2 _ hHR3 hS3 hRL3 hRS3)
  intro pc ls st k μ hj
  obtain ⟨rfl, rfl, rfl, rfl, rfl⟩ := hj
  intro H4 locs4 als4 vs4 hH4 hS4 hL4 hR4
  obtain ⟨w4, vs5, rfl, ⟨rfl, -⟩, hR5⟩ := ma_RS_cons hR4
  cases ma_RS_nil hR5
  refine lv_ifnull hx hb (show decode code 13 = .ok (.ifnull 18, 3) by decide +kernel) ?_
  -- another object
  have a0 : G'.ad 0 0 < H4.size := mv_lt hH4 ⟨by decide, by decide, by decide, lv' 0 (by decide)⟩
  have a1 : G'.ad 1 0 < H4.size := mv_lt hH4 ⟨by decide, by decide, by decide, lv' 1 (by decide)⟩
  have h0' : G'.h0 ≤ H4.size := Nat.le_trans K'.2.2.1 hS4.1
  refine nw_obj (p := p) (l := l) (e := e) (R := room_1) (pc := 16) C' hml.symm E' (i := 10) (j := 126) (by decide) (by decide) (show decode code 16 = .ok (.new 10, 3) by decide +kernel) (show decode code (16 + 3) = .ok (.dup, 1) by decide +kernel) (show decode code (16 + 4) = .ok (.invokespecial 126, 3) by decide +kernel) ⟨Nat.le_of_ble_eq_true rfl, Nat.le_of_ble_eq_true rfl⟩ (Nat.le_of_ble_eq_true rfl) (Nat.le_of_ble_eq_true rfl) hS4 a0 a1 hL4.2.1 (by decide) (fun H5 locs5 hH5 hz5 ho5 hS5 => ?_)
  -- its map is refused
  have hq3 : (11, 164, mi_LatticefitLaw_map) ∈ ma_ml := by decide
  obtain ⟨hplain3, hmh3, hvh3, hpar3, hnl3⟩ := ma_cls_ok mi_LatticefitLaw_map (by decide)
  have hlink3 := htg _ (ma_WG_in (ma_ml_in _ (List.mem_map.mpr ⟨_, hq3, rfl⟩)) (ma_ml_good _ (List.mem_map.mpr ⟨_, hq3, rfl⟩)))
  have hsw3 : (Cond.static (ma_y mi_LatticefitLaw_map)).before #[Value.ref b] s = true := htg _ (ma_sw_ok mi_LatticefitLaw_map (by decide))
  have hgi3 := ma_goodIn (y := mi_LatticefitLaw_map) (by decide)
  have hini3 := htg _ (ma_iw_ok mi_LatticefitLaw_map (by decide))
  have hlen3 : ∀ sig, parseMethodDescriptor (ma_y mi_LatticefitLaw_map).desc = some sig → 1 = sig.parameters.length := fun sig hs => by
    rw [hs] at hpar3
    exact (Option.some.inj hpar3).symm
  have ad2 : (nw_G G' H4.size).ad 2 0 = H4.size := by show (if (2 : Nat) < 2 then G'.ad 2 0 else H4.size + (co_off 2 + (0 : Int).toNat)) = _; rw [if_neg (by decide)]; rfl
  have hpre3 : PreS s H5 (ma_Pc (nw_G G' H4.size) [ma_Rf 2 0] (nw_mu μ)) [Value.ref H4.size] := ⟨ma_blind _ _ _, fun U hU hW => by
    have KU : ma_KX G' U := ma_KX.moved hW (by rw [hU]; exact hS5) K'
    have KN := nw_KX (h := H4.size) KU.1 KU.2.1 (E'.moved hW) a0 a1 (by rw [hU]; exact hz5)
    refine ⟨⟨_, rfl, ⟨by rw [ad2], ⟨by decide, by decide, by decide, rfl⟩⟩, trivial⟩, ?_, nw_KX2 KU a0 a1 h0' (by rw [hU]; exact hz5)⟩
    rw [hU]
    exact nw_HR KN ⟨lv' 0 (by decide), lv' 1 (by decide)⟩ (hH4.moved hW.alike) ho5 hH5⟩
  have hM3 := ma_Ct_all l hls (nw_G G' H4.size) (by show G'.LS ≤ 2048; omega) 8 mi_LatticefitLaw_map [ma_Rf 2 0] (nw_mu μ) (fun r _ => r = .inl (some (ma_I (-900001)))) (by have := hmap μ; rw [← hLS'] at this; exact this)
  unfold ma_Ct at hM3
  have hcw3 : ma_cw mi_LatticefitLaw_map = Cond.codeWith (ma_y mi_LatticefitLaw_map) (ma_b mi_LatticefitLaw_map) (ma_nL mi_LatticefitLaw_map) (ma_ret mi_LatticefitLaw_map) (ma_hc mi_LatticefitLaw_map) := rfl
  have hcb3 := htg _ (ma_cw_ok mi_LatticefitLaw_map (by decide))
  rw [hcw3] at hM3 hgi3 hcb3
  have hrk3 : ma_rk mi_LatticefitLaw_map = 1 := rfl
  have hwc3 : ma_wc mi_LatticefitLaw_map = 1 := rfl
  rw [hrk3, hwc3] at hM3
  have hrun3 := vx_runSX (p := p) (l := l) (e := e) (R := room_1) (below := below) (meth := meth) (cells := 701 + 281) (slots := 23430 + 20000) (locs := locs5) (H := H5) (g := F0 m 23 als4 [.ref H4.size]) (rest := []) (As := [Value.ref H4.size]) (mc := 1) (ms := 6 * 1) (nL := 13) (Ts := ma_WG) (hh := ma_hc mi_LatticefitLaw_map)
    ⟨hx, hb, hml, hown9, htg⟩ hM3 ⟨⟨rfl, rfl, Nat.le_of_ble_eq_true rfl, Nat.le_of_ble_eq_true rfl, pay_in htg hgi3, List.mem_cons_self⟩, hcb3, hini3, ⟨hmh3, hvh3⟩, hlen3, hlink3, hsw3⟩ hpre3 rfl rfl hL4.2.1 rfl (by show 2 * 0 + 0 ≤ 8; omega) (show decode code 23 = .ok (.invokestatic 164, 3) by decide +kernel) ⟨Nat.le_of_ble_eq_true rfl, Nat.le_of_ble_eq_true rfl⟩
  have hA1 : ∀ q, ma_A (nw_G G' H4.size) q → ma_A G' q := fun q z => by have z : H4.size ≤ q := z; exact Nat.le_trans h0' z
  refine vx_calli (a := [Value.ref H4.size].toArray) (A0 := ma_A G') hrun3 hS5 (fun q _ z => hA1 q z) (fun q z => hA1 q z) (fun q _ z => hA1 q z) (fun E9 ce q9 u t H1' locs1' _ _ hpx => ?_) (fun r u t H6 locs6 k1 k2 k3 k4 k5 k6 k7 => ?_)
  · have : (Sum.inr u.1 : ma_R) = .inl (some (ma_I (-900001))) := hpx.2
    cases this
  have k3 : (Sum.inl (some (ma_I r.toInt)) : ma_R) = .inl (some (ma_I (-900001))) := k3
  have hr9 : r.toInt = -900001 := Sum.inl.inj (Option.some.inj (Sum.inl.inj k3))
  have hr8 : r = -900001 := by rw [← ma_ofT hr9]; rfl
  subst hr8
  have hcon : (Cond.constant "LatticefitLaw" 17 (-900001)).before #[Value.ref b] s = true := by
    have h9 : (11, 17, (-900001 : Int)) ∈ ma_kI := by decide
    exact htg _ (ma_WG_in (ma_kI_in _ (List.mem_map.mpr ⟨_, h9, rfl⟩)) (ma_kI_good _ (List.mem_map.mpr ⟨_, h9, rfl⟩)))
  refine lv_ldc hx hb hown hcon (show decode code 26 = .ok (.ldc 17, 2) by decide +kernel) ?_
  refine lv_icmp_eq (tgt := 33) hx hb (show decode code 28 = .ok (.if_icmp .eq 5, 3) by decide +kernel) (by decide) (fun _ => ?_) (fun h => absurd rfl h)
  -- the run
  have hHR6 : ma_HR G' s μ H6 := ma_HR_grow hH4 (fun q hq => by rw [k6 q (by omega) (fun z => by have z : H4.size ≤ q := z; omega), ho5 q hq])
  refine W.widen (k := 983 + 0) (n := 43436 + 6 * 0) (by omega) (by omega) (mv_s_run (p := p) (l := l) (e := e) (R := room_1) (below := below) (meth := meth) (Q := lw_Z below #[Value.ref b] s) (c0 := 983) (s0 := 43436) (d := 10) (E := (L, [], 2, W9)) (D := law_D W9) (sites := law_sites) (t := mb_law) (st := []) C' hml.symm ⟨hLS'.symm, by show G'.LS ≤ 2048; omega⟩ (lv' 69 (by decide)) hls law_sites_ok law_chk ⟨Nat.le_of_ble_eq_true rfl, Nat.le_of_ble_eq_true rfl⟩ ⟨Nat.le_of_ble_eq_true rfl, Nat.le_of_ble_eq_true rfl, by show 983 + W9 ≤ 600390; omega, by show 43436 + 6 * W9 ≤ 7291200; omega⟩ (ma_hX_nil rfl) ?_ (by rw [hLS']; exact hrun μ hpb) H6 locs6 als4 [] hHR6 k7 hL4 trivial)
  intro G2 hG2 k μ2 H locs hH hS
  refine ⟨fun pc e9 ls rest q ce _ hD => ?_, fun pc e9 t9 ls ho => absurd ho (by decide), fun pc x ls hd _ hD => ?_, fun pc x ls hd h1 => ?_, fun pc x ls hd h1 => ?_, fun pc x ls hd h1 => ?_, fun pc ls hd h1 => ?_⟩
  · cases hD.1
  · obtain ⟨h1, h2⟩ := hD
    have h3 : x.toInt = 1 := by
      have h4 := Option.some.inj (Sum.inl.inj h1)
      exact Sum.inl.inj h4
    have hx1 : x = 1 := by
      rw [← ma_ofT h3]; rfl
    rw [hx1]
    refine va_forget (fun q hq => ?_) (W.widen (k := 600390) (n := 7291200) (by omega) (by omega) (lw_ret hx hb hr hlocks hd))
    have h5 := hS.2.2 q hq
    have h6 : G2.h0 ≤ q.base := h5
    rw [hG2.2.2.2.2.1, hG.2.2.2.2.1, g1] at h6
    exact h6
  · exact absurd (show (2 : Nat) = 4 from h1) (by decide)
  · exact absurd (show (2 : Nat) = 5 from h1) (by decide)
  · exact absurd (show (2 : Nat) = 6 from h1) (by decide)
  · exact absurd (show (2 : Nat) = 0 from h1) (by decide)
