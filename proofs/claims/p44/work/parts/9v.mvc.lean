/-! the methods that call values; their calls in the law -/
set_option maxHeartbeats 2000000 in
theorem mv_Met (l : Launch) (hls : l.stackTraces = false) (G : ma_G) (hLS : G.LS ≤ 2048) {y iv : Nat} {kk : Fin 4} {t : ma_Tb} {as : List ma_V} {d : Nat} {μ : ma_M} {PV : ma_M → Prop} {Post : ma_R → ma_M → Prop}
    (hy : y < ma_nM) (hhc : (ma_hc y).isEmpty = true) (hhh : ma_hh y = []) (hown : (ma_y y).cls = "LatticefitLaw") (hrk : ma_rk y = 0 ∨ ma_rk y = 2) (hchk : ma_chk (ma_b y) 11 (ma_nL y) t = true)
    (d0 : decode (ma_b y) 0 = .ok (.aload_n kk, 1)) (d1 : decode (ma_b y) 1 = .ok (.invokestatic iv, 3)) (hl : (11, iv, mi_LatticefitLaw_values) ∈ ma_ml)
    (hnu : as.all ma_nU = true) (hsl : (ma_slots as).length ≤ ma_nL y) (hnV : (ma_entry (ma_nL y) as).all mv_nV = true) (harg : (ma_entry (ma_nL y) as).getD kk.val ma_U = ma_Rf 69 0) (hwc : 8 ≤ ma_wc y)
    (hv : vl_Ct l G d μ PV) (hrun : ∀ μ' : ma_M, PV μ' → ma_run (ma_Ox G.LS d) (ma_EE G.LS y) (ma_at t) (ma_DD (ma_EE G.LS y) Post) 4 (ma_entry (ma_nL y) as) [ma_Rf 70 0] 8 μ') (hP : ∀ (x : Nat) (μ' : ma_M), ¬ Post (.inr x) μ') : mv_Ct l G (d + 1) y as μ Post := by
  obtain ⟨hplain, hmh, hvh, hpar, hnl⟩ := ma_cls_ok y hy
  obtain ⟨rt0, rt1, rt2, rt3, rt4, rt5, rt6⟩ := ma_ret_ok y hy
  unfold mv_Ct
  have hcw : ma_cw y = Cond.code (ma_y y) (ma_b y) (ma_nL y) (ma_ret y) := by unfold ma_cw; rw [if_pos hhc]
  refine Met.ofW hplain (ws' := ma_WG) (cc := ma_b y) (maxL := ma_nL y) (ret := ma_ret y) (by rw [hcw]) ?_
  intro p e s m args below meth c s₁ B hml hPc
  obtain ⟨⟨vl, rfl, hRS⟩, hH, hKX⟩ := hPc
  have hts := atoms_spec (ws := ma_cw y :: ma_WG) B.pre
  have hown1 : s.vm.findClass "LatticefitLaw" = some m.cls := by rw [← hown]; exact findClass_of_methodNamed B.named
  have C : ma_Cx p s m vl.toArray c G (ma_b y) 11 (ma_nL y) := ⟨B.exec, B.bytes, hml, hown1, fun w hw => hts w (List.mem_cons_of_mem _ hw), hKX.1, hKX.2.1, hKX.2.2.1, hKX.2.2.2⟩
  have hr := B.returns
  have hlocks := B.notSynchronized
  rw [lg_entry_eq]
  have hRL := ma_entry_RL hRS hnu hsl
  generalize (lg_sl vl ++ List.replicate (ma_nL y - (lg_sl vl).length) Slot.unset).toArray = als at hRL
  obtain ⟨w, g1, g2⟩ := hRL.get harg ma_neU_R
  obtain ⟨rfl, hv69⟩ := g2
  refine lv_aload_n (i := kk.val) C.1 C.2.1 d0 rfl g1 ?_
  obtain ⟨hplain2, hmh2, hvh2, hpar2, hnl2⟩ := ma_cls_ok mi_LatticefitLaw_values (by decide)
  have hlink := C.2.2.2.2.1 _ (ma_WG_in (ma_ml_in _ (List.mem_map.mpr ⟨_, hl, rfl⟩)) (ma_ml_good _ (List.mem_map.mpr ⟨_, hl, rfl⟩)))
  have hsw : (Cond.static (ma_y mi_LatticefitLaw_values)).before vl.toArray s = true := C.2.2.2.2.1 _ (ma_sw_ok mi_LatticefitLaw_values (by decide))
  have hgi := ma_goodIn (y := mi_LatticefitLaw_values) (by decide)
  have hini := C.2.2.2.2.1 _ (ma_iw_ok mi_LatticefitLaw_values (by decide))
  have hpre : PreS s s.heap (ma_Pc G [ma_Rf 69 0] μ) [Value.ref (G.ad 69 0)] := ⟨ma_blind _ _ _, fun U hU hW => ⟨⟨_, rfl, ⟨rfl, hv69⟩, trivial⟩, by rw [hU]; exact hH.moved hW.alike, ma_KX.moved hW (by rw [hU]; exact va_S.rf) hKX⟩⟩
  have hcw2 : ma_cw mi_LatticefitLaw_values = Cond.code (ma_y mi_LatticefitLaw_values) (ma_b mi_LatticefitLaw_values) 4 (ma_ret mi_LatticefitLaw_values) := rfl
  unfold vl_Ct at hv
  rw [hcw2] at hv hgi
  have hrun1 := va_runS (p := p) (l := l) (e := e) (R := (headSpec (ma_cw y :: ma_WG) (ma_rm (d + 1) (ma_wc y))).room) (below := below) (meth := meth) (cells := 0) (slots := 0) (locs := []) (H := s.heap) (g := F0 m 1 als [.ref (G.ad 69 0)]) (rest := []) (As := [Value.ref (G.ad 69 0)]) (mc := 8) (ms := 48) (nL := ma_nL y) (Ts := ma_WG)
    ⟨C.1, C.2.1, C.2.2.1, C.2.2.2.1, C.2.2.2.2.1⟩ hv ⟨callB_of 1 C.2.2.2.2.1 hgi rfl rfl rfl hini hlink ⟨hmh2, hvh2, hpar2⟩ ⟨by show d + 10 + 1 ≤ d + 1 + 10; omega, by show 8 + (4 + 11) + (43 * d + 200) ≤ 43 * (d + 1) + 200; omega⟩, hsw⟩ hpre rfl rfl hRL.2.1 rfl (by show 2 * 0 + 0 ≤ 8; omega) d1 ⟨by show 0 + 8 ≤ ma_wc y; omega, by show 0 + 48 ≤ 6 * ma_wc y; omega⟩
  refine va_callr (A0 := ma_A G) (H0 := s.heap) hrun1 va_S.rf (fun _ _ z => z) (fun _ z => z) (fun u ra tt H1 locs1 h1 h2 h3 h4 h5 h6 h7 => ?_)
  obtain ⟨G', μ'⟩ := u
  obtain ⟨hG, hlv, hpv⟩ := h3
  obtain ⟨rfl, hHR⟩ := h4
  have hG : mv_G G G' := hG
  have hHR : ma_HR G' s μ' H1 := by rw [← h1]; exact ma_HR.moved h2.symm hHR
  have C' := mv_Cx hG C
  have hRL' := mv_RL hG hnV hRL
  have hS' : va_S (ma_A G') s.heap H1 locs1 := by rw [mv_A hG]; exact h7
  have hRS' : ma_RS G' [ma_Rf 70 0] [.ref (G'.ad 70 0)] := ⟨⟨rfl, ⟨by decide, by decide, by decide, hlv⟩⟩, trivial⟩
  have hLS' : G'.LS = G.LS := hG.2.2.2.2.2.1
  refine ma_s_run (Q := MQ below (mv_Qc G (ma_rk y) Post) vl.toArray s (ma_wc y) (6 * ma_wc y) (ma_A G)) (c0 := 0) (s0 := 0) (d := d) (k := 8) C' hml.symm ⟨hLS'.symm, by rw [hLS']; exact hLS⟩ hchk ⟨by show d + 11 ≤ d + 1 + 10; omega, by show 43 * (d + 1) + 200 ≤ 43 * (d + 1) + 200; omega⟩ ⟨by show 10 ≤ d + 1 + 10; omega, by show 200 ≤ 43 * (d + 1) + 200; omega, by show 0 + ma_wc y ≤ ma_wc y; omega, by show 0 + 6 * ma_wc y ≤ 6 * ma_wc y; omega⟩ (O := ma_Ox G.LS d) (by rw [← hLS']; exact ma_Ct_all l hls G' (by rw [hLS']; exact hLS) d) (ma_hX_nil hhh) ?_ (hrun μ' hpv) H1 locs1 als _ hHR hS' hRL' hRS'
  intro k μ2 H locs hH2 hS2
  have hB : ∀ t : State, t.heap = H → s.WarmedH t.vm → mv_B (G', μ2) t := fun t ht hW => by
    show ma_HR G' t μ2 t.heap
    rw [ht]
    exact ma_HR.moved hW.alike hH2
  have hS3 : va_S (ma_A G) s.heap H locs := by rw [← mv_A hG]; exact hS2
  have wd : ∀ (hk : k ≤ ma_wc y) (g : JFrame), W p l e (headSpec (ma_cw y :: ma_WG) (ma_rm (d + 1) (ma_wc y))).room s m vl.toArray below meth c H locs (ma_wc y) (6 * ma_wc y) (MQ below (mv_Qc G (ma_rk y) Post) vl.toArray s (ma_wc y) (6 * ma_wc y) (ma_A G)) g → W p l e (headSpec (ma_cw y :: ma_WG) (ma_rm (d + 1) (ma_wc y))).room s m vl.toArray below meth c H locs (0 + k) (0 + 6 * k) (MQ below (mv_Qc G (ma_rk y) Post) vl.toArray s (ma_wc y) (6 * ma_wc y) (ma_A G)) g := fun hk g hw => W.widen (by omega) (by omega) hw
  refine ⟨fun pc e9 ls rest q ce _ hD => absurd hD.2.2.2 (hP _ _), fun pc e9 t9 ls ho => absurd ho (by decide), fun pc x ls hd hres hD => ?_, fun pc x ls hd h1 => ?_, fun pc x ls hd h1 => ?_, fun pc x ls hd h1 => ?_, fun pc ls hd h1 hD => ?_⟩
  · obtain ⟨hk, hp⟩ := hD
    refine wd hk _ ?_
    have hres : ma_resI (ma_rk y) x.toInt := hres
    rcases hres with z | ⟨z, h2⟩ | ⟨z, h2⟩
    · omega
    · rw [z]
      exact W.zret (v := x) C.1 C.2.1 (hr.trans (rt2 z)) (ma_nbool h2).1 (fun t ht hW => ⟨⟨x, (G', μ2), rfl, ⟨hG, hp⟩, hB t ht hW⟩, hS3.F ht⟩) hS3.2.2 hd (hlocks := hlocks)
    · omega
  · have h1 : ma_rk y = 4 := h1
    omega
  · have h1 : ma_rk y = 5 := h1
    omega
  · have h1 : ma_rk y = 6 := h1
    omega
  · obtain ⟨hk, hp⟩ := hD
    refine wd hk _ ?_
    have h1 : ma_rk y = 0 := h1
    rw [h1]
    exact W.vret C.1 C.2.1 (hr.trans (rt0 h1)) (fun t ht hW => ⟨⟨(G', μ2), rfl, ⟨hG, hp⟩, hB t ht hW⟩, hS3.F ht⟩) hS3.2.2 hd (hlocks := hlocks)
/-- what the law may rely on of such a call: in every world -/
def mv_O (l : Launch) (LS d : Nat) : ma_O := fun y as μ Post => ∀ G : ma_G, G.LS = LS → G.lv 69 = true → mv_Ct l G d y as μ Post
/-- the law's runs go on behind such a call in another world -/
def mv_cl (O2 : ma_O) (W9 : Nat) (sites : List (Nat × Nat × Nat)) (R : ma_J) : Prop := ∀ (pc i y : Nat) (as rest ls st : List ma_V) (k : Nat) (μ : ma_M), (pc, i, y) ∈ sites → ma_pop (ma_na y) st [] = some (as, rest) → ls.all mv_nV = true → rest.all mv_nV = true → ma_w8 rest ≤ 8 → k + ma_wc y ≤ W9 →
  O2 y as μ (fun r μ' => match r with
    | .inl none => R (pc + 3) ls rest (k + ma_wc y) μ'
    | .inl (some v) => R (pc + 3) ls (v :: rest) (k + ma_wc y) μ'
    | .inr _ => False) → R pc ls st k μ
def mv_run (O O2 : ma_O) (W9 : Nat) (sites : List (Nat × Nat × Nat)) (E : ma_E) (bl : ma_B) (D : ma_Dn) (pc : Nat) (ls st : List ma_V) (k : Nat) (μ : ma_M) : Prop := ∀ R : ma_J, ma_cl O E bl D R → mv_cl O2 W9 sites R → R pc ls st k μ
section MVC
variable {p : Program} {l : Launch} {e : Env} {R : Room} {s : State} {m : MethodId} {args : Array Value} {below : List Frame} {meth : Method} {c : Code} {Q : State → Prop} {G : ma_G} {cc : ByteArray} {nL c0 s0 pc k : Nat} {ls st : List ma_V} {μ : ma_M} {E : ma_E} {D : ma_Dn}
variable {d : Nat}
set_option maxHeartbeats 2000000 in
theorem mv_call {i y : Nat} {as rest : List ma_V} {Post : ma_R → ma_M → Prop} (C : ma_Cx p s m args c G cc 11 nL) (hLn : nL = c.maxLocals) (hq : (11, i, y) ∈ ma_ml ∧ y < ma_nM ∧ ma_stat y = true ∧ (ma_hc y).isEmpty = true ∧ (ma_rk y = 0 ∨ ma_rk y = 2)) (hd : decode cc pc = .ok (.invokestatic i, 3))
    (hR : d + 11 ≤ R.frames ∧ 43 * (d + 1) + 200 ≤ R.locals) (hRo : ma_Ro R E c0 s0) (hw : k + ma_wc y ≤ E.2.2.2) (hp : ma_pop (ma_na y) st [] = some (as, rest)) (h4 : ma_w8 rest ≤ 8) (hls : ls.all mv_nV = true) (hrs : rest.all mv_nV = true) (hM : mv_Ct l G d y as μ Post)
    (hK0 : ma_rk y = 0 → ∀ (G' : ma_G) (μ' : ma_M), mv_G G G' → Post (.inl none) μ' → ma_W p l e R s m args below meth c Q G' nL c0 s0 (pc + 3) ls rest (k + ma_wc y) μ')
    (hK2 : ma_rk y = 2 → ∀ (G' : ma_G) (r : Int) (μ' : ma_M), mv_G G G' → Post (.inl (some (ma_I r))) μ' → ma_W p l e R s m args below meth c Q G' nL c0 s0 (pc + 3) ls (ma_I r :: rest) (k + ma_wc y) μ') : ma_W p l e R s m args below meth c Q G nL c0 s0 pc ls st k μ := by
  obtain ⟨hl, hyn, hst, hhc, hrk⟩ := hq
  obtain ⟨bs, b1, b2, b3⟩ := ma_pop_e _ _ _ _ _ hp
  rw [List.append_nil] at b3
  subst b2
  intro H locs als vs0 hH hS hL hRS
  obtain ⟨ws, vs, rfl, hRb, hR2⟩ := ma_RS_app hRS
  have hc8 := ma_catW hR2 h4
  obtain ⟨r1, r2, r3, r4⟩ := hRo
  obtain ⟨hplain, hmh, hvh, hpar, hnl⟩ := ma_cls_ok y hyn
  have hlink := C.2.2.2.2.1 _ (ma_WG_in (ma_ml_in _ (List.mem_map.mpr ⟨_, hl, rfl⟩)) (ma_ml_good _ (List.mem_map.mpr ⟨_, hl, rfl⟩)))
  have hsw := C.2.2.2.2.1 _ (ma_sw_ok y hyn)
  rw [hst] at hsw
  have hgi := ma_goodIn hyn
  have hpre : PreS s H (ma_Pc G as μ) ws.reverse := ⟨ma_blind _ _ _, fun U hU hW => ⟨⟨_, rfl, by rw [b3]; exact ma_RS_rev hRb⟩, by rw [hU]; exact hH.moved hW.alike, ma_KX.moved hW (by rw [hU]; exact hS) ⟨C.2.2.2.2.2.1, C.2.2.2.2.2.2.1, C.2.2.2.2.2.2.2.1, C.2.2.2.2.2.2.2.2⟩⟩⟩
  have hini := C.2.2.2.2.1 _ (ma_iw_ok y hyn)
  have hcw : ma_cw y = Cond.code (ma_y y) (ma_b y) (ma_nL y) (ma_ret y) := by unfold ma_cw; rw [if_pos hhc]
  unfold mv_Ct at hM
  rw [hcw] at hM hgi
  have ec : c0 + k + ma_wc y = c0 + (k + ma_wc y) := Nat.add_assoc _ _ _
  have es : s0 + 6 * k + 6 * ma_wc y = s0 + 6 * (k + ma_wc y) := by omega
  have hrun1 := va_runS (p := p) (l := l) (e := e) (R := R) (below := below) (meth := meth) (cells := c0 + k) (slots := s0 + 6 * k) (locs := locs) (H := H) (g := F0 m pc als (ws ++ vs)) (rest := vs) (As := ws.reverse) (mc := ma_wc y) (ms := 6 * ma_wc y) (nL := nL) (Ts := ma_WG)
    ⟨C.1, C.2.1, hLn.symm, C.2.2.2.1, C.2.2.2.2.1⟩ hM ⟨callB_of (ma_na y) C.2.2.2.2.1 hgi rfl rfl rfl hini hlink ⟨hmh, hvh, hpar⟩ (ma_roomC hR hnl), hsw⟩ hpre rfl (by rw [List.length_reverse, ma_RS_len hRb, b1]) hL.2.1 (by rw [List.reverse_reverse]) (by show 2 * 0 + _ ≤ 8; omega) hd ⟨by omega, by omega⟩
  have back : ∀ (G' : ma_G) (μ' : ma_M) (t : State) (H1 : Heap), t.heap = H1 → s.vm.Alike t.vm → mv_B (G', μ') t → ma_HR G' s μ' H1 := fun G' μ' t H1 h1 h2 h3 => by
    rw [← h1]; exact ma_HR.moved h2.symm h3
  rcases hrk with hrk | hrk
  · rw [hrk] at hrun1
    refine va_callv (a := ws.reverse.toArray) (A0 := ma_A G) hrun1 hS (fun _ _ z => z) (fun _ z => z) (fun u tt H1 locs1 h1 h2 h3 h5 _ _ h6 => ?_)
    obtain ⟨G', μ'⟩ := u
    obtain ⟨hG, hpost⟩ := h3
    have hG : mv_G G G' := hG
    rw [ec, es]
    exact hK0 hrk G' μ' hG hpost H1 locs1 als vs (back G' μ' tt H1 h1 h2 h5) (by rw [mv_A hG]; exact h6) (mv_RL hG hls hL) (mv_RS hG hrs hR2)
  · rw [hrk] at hrun1
    refine va_calli (a := ws.reverse.toArray) (A0 := ma_A G) hrun1 hS (fun _ _ z => z) (fun _ z => z) (fun r u tt H1 locs1 h1 h2 h3 h5 _ _ h6 => ?_)
    obtain ⟨G', μ'⟩ := u
    obtain ⟨hG, hpost⟩ := h3
    have hG : mv_G G G' := hG
    rw [ec, es]
    exact hK2 hrk G' r.toInt μ' hG hpost H1 locs1 als _ (back G' μ' tt H1 h1 h2 h5) (by rw [mv_A hG]; exact h6) (mv_RL hG hls hL) ⟨⟨r, rfl, rfl⟩, mv_RS hG hrs hR2⟩
def mv_sok (cc : ByteArray) (q : Nat × Nat × Nat) : Bool := decide (decode cc q.1 = .ok (.invokestatic q.2.1, 3)) && decide ((11, q.2.1, q.2.2) ∈ ma_ml ∧ q.2.2 < ma_nM ∧ ma_stat q.2.2 = true ∧ (ma_hc q.2.2).isEmpty = true ∧ (ma_rk q.2.2 = 0 ∨ ma_rk q.2.2 = 2))
/-- the law's runs are true to the JVM -/
theorem mv_s_run {t : ma_Tb} {sites : List (Nat × Nat × Nat)} (C : ma_Cx p s m args c G cc 11 nL) (hLn : nL = c.maxLocals) (hLS : E.1 = G.LS ∧ G.LS ≤ 2048) (h69 : G.lv 69 = true) (hls : l.stackTraces = false) (hok : sites.all (mv_sok cc) = true) (hchk : ma_chk cc 11 nL t = true)
    (hR : d + 11 ≤ R.frames ∧ 43 * (d + 1) + 200 ≤ R.locals) (hRo : ma_Ro R E c0 s0) (hX : ma_hX p l e R s m args below meth c Q E) (hE : ∀ G' : ma_G, mv_G G G' → ma_hE p l e R s m args below meth c Q G' cc 11 nL c0 s0 E D)
    (h : mv_run (ma_Ox G.LS d) (mv_O l G.LS d) E.2.2.2 sites E (ma_at t) D pc ls st k μ) : ma_W p l e R s m args below meth c Q G nL c0 s0 pc ls st k μ := by
  have key := h (fun pc ls st k μ => ∀ G' : ma_G, mv_G G G' → ma_W p l e R s m args below meth c Q G' nL c0 s0 pc ls st k μ) (fun pc b ls st k μ hb hd G' hG => ?_) (fun pc i y as rest ls st k μ hs hp h1 h2 h3 hk ho G' hG => ?_)
  · exact key G (mv_rf C.2.2.2.2.2.2.1)
  · obtain ⟨h1, h2⟩ := ma_chk_at hchk hb
    have hLS' : G'.LS = G.LS := hG.2.2.2.2.2.1
    have h3 := ma_s_den (O := ma_Ox G.LS d) (mv_Cx hG C) hLn ⟨by rw [hLS']; exact hLS.1, by rw [hLS']; exact hLS.2⟩ hR hRo (by rw [← hLS']; exact ma_Ct_all l hls G' (by rw [hLS']; exact hLS.2) d) hX (hE G' hG) (fun pc ls st k μ z => z G' hG) b.2 pc _ st k μ h2 hd
    intro H locs als vs hH hS hL hR9
    exact h3 H locs als vs hH hS (hL.msk h1) hR9
  · have hq := List.all_eq_true.mp hok _ hs
    unfold mv_sok at hq
    rw [Bool.and_eq_true, decide_eq_true_eq, decide_eq_true_eq] at hq
    have hLS' : G'.LS = G.LS := hG.2.2.2.2.2.1
    have hv69 : G'.lv 69 = true := by rw [hG.2.2.2.2.2.2.1 69 (by decide)]; exact h69
    refine mv_call (d := d) (mv_Cx hG C) hLn hq.2 hq.1 hR hRo hk hp h3 h1 h2 (ho G' hLS' hv69) (fun _ G2 μ' hG2 hpost => ?_) (fun _ G2 r μ' hG2 hpost => ?_)
    · exact hpost G2 (mv_tr hG hG2)
    · exact hpost G2 (mv_tr hG hG2)
end MVC
