/-! new Latticefit(): what its constructor leaves, in any frame whose code has the three instructions -/
def co_s1 : co_S := (1, 11, [], [], [])
def st_Pb (l : List (Nat × Nat)) : Bool := (List.range 69).all (fun k => (List.range 60).all (fun f => !(Nat.ble 10 (ma_ck k).1 && (Nat.beq (ma_fk ((ma_ck k).1 - 10) f) 3 || Nat.beq (ma_fk ((ma_ck k).1 - 10) f) 4)) || decide ((k, f) ∈ l)))
def co_chkF (z : Option (Option ma_V × co_S)) : Bool := match z with
  | some (none, F) => decide (F.1 = 281) && (decide (11 ≤ F.2.1) && (decide (F.2.1 ≤ 20000) && st_Pb F.2.2.1))
  | _ => false
theorem co_chkF_ok : co_chkF (co_run 4 10 [ma_Rf 2 0] co_s1) = true := by decide +kernel
theorem co_ex : ∃ F : co_S, co_run 4 10 [ma_Rf 2 0] co_s1 = some (none, F) ∧ F.1 = 281 ∧ 11 ≤ F.2.1 ∧ F.2.1 ≤ 20000 ∧ st_Pb F.2.2.1 = true := by
  have h := co_chkF_ok
  generalize co_run 4 10 [ma_Rf 2 0] co_s1 = z at h ⊢
  match z, h with
  | some (none, F), h =>
    have h : (decide (F.1 = 281) && (decide (11 ≤ F.2.1) && (decide (F.2.1 ≤ 20000) && st_Pb F.2.2.1))) = true := h
    simp only [Bool.and_eq_true, decide_eq_true_eq] at h
    exact ⟨F, rfl, h.1, h.2.1, h.2.2.1, h.2.2.2⟩
  | some (some _, _), h => cases h
  | none, h => cases h
/-- what the constructor leaves -/
noncomputable def co_F : co_S := Classical.choose co_ex
theorem co_ev : co_run 4 10 [ma_Rf 2 0] co_s1 = some (none, co_F) := (Classical.choose_spec co_ex).1
theorem co_evs : co_F.1 = 281 ∧ 11 ≤ co_F.2.1 ∧ co_F.2.1 ≤ 20000 := ⟨(Classical.choose_spec co_ex).2.1, (Classical.choose_spec co_ex).2.2.1, (Classical.choose_spec co_ex).2.2.2.1⟩
theorem st_P0 (k : Nat) (hk : k < 69) (f : Nat) (hf : f < 60) (h1 : 10 ≤ (ma_ck k).1) (h2 : ma_fk ((ma_ck k).1 - 10) f = 3 ∨ ma_fk ((ma_ck k).1 - 10) f = 4) : (k, f) ∈ co_F.2.2.1 := by
  have h := List.all_eq_true.mp (List.all_eq_true.mp (Classical.choose_spec co_ex).2.2.2.2 k (List.mem_range.mpr hk)) f (List.mem_range.mpr hf)
  rw [Nat.ble_eq_true_of_le h1] at h
  rcases h2 with z | z <;> (rw [z] at h; exact of_decide_eq_true h)
theorem st_in : ∀ k, k < 69 → 2 ≤ k → co_off k + (ma_ck k).2.2 ≤ 281 := by decide +kernel
theorem st_lt : ∀ k, k < 68 → 2 ≤ k → co_off k + (ma_ck k).2.2 ≤ co_off (k + 1) := by decide +kernel
theorem st_k8 : ∀ k, k < 69 → 2 ≤ k → (ma_ck k).1 ≤ 6 ∨ 10 ≤ (ma_ck k).1 ∧ (ma_ck k).1 < 21 := by decide +kernel
theorem st_no4 : ∀ ci, ci < 11 → ∀ f, f < 60 → ma_fk ci f ≠ 4 := by decide +kernel
theorem st_mono (k : Nat) (h2 : 2 ≤ k) : ∀ k', k < k' → k' < 69 → co_off k + (ma_ck k).2.2 ≤ co_off k'
  | 0, h, _ => by omega
  | k' + 1, h, h9 => by
    by_cases e : k = k'
    · subst e; exact st_lt k (by omega) h2
    · have h1 := st_mono k h2 k' (by omega) (by omega)
      have h3 := st_lt k' (by omega) (by omega)
      omega
theorem st_inj {k k' : Nat} {r r' : Int} (hv : co_val k r) (hv' : co_val k' r') (h2 : 2 ≤ k) (h2' : 2 ≤ k') (h : co_off k + r.toNat = co_off k' + r'.toNat) : k = k' ∧ r = r' := by
  have hk := hv.1
  have hk' := hv'.1
  have a1 := hv.2
  have a2 := hv'.2
  rcases Nat.lt_trichotomy k k' with c | c | c
  · have := st_mono k h2 k' c hk'
    omega
  · subst c
    exact ⟨rfl, by omega⟩
  · have := st_mono k' h2' k c hk
    omega
/-- what an object's making needs of the world beside the tables -/
def co_Ex (G : ma_G) (U : State) : Prop := (∀ t, t ≤ 6 → U.vm.findClass (co_an t) = some (G.dA t)) ∧ (∀ w ∈ co_nests, va_Nw w U) ∧ (∀ t, t < 2 → (Cond.arrayOver (.array (ma_fat t))).before #[] U = true)
theorem co_Ex.moved {G : ma_G} {s U : State} (hW : s.WarmedH U.vm) (h : co_Ex G s) : co_Ex G U := by
  obtain ⟨h5, h6, h7⟩ := h
  have hvm := hW.alike
  refine ⟨fun t ht => by rw [hvm.findClass]; exact h5 t ht, fun w hw => ?_, fun t ht => over_moved hvm (h7 t ht)⟩
  have h9 := h6 w hw
  obtain ⟨x, -, rfl⟩ := List.mem_map.mp hw
  exact va_Nw.warmM hW h9
theorem co_Ex.blind {G : ma_G} {U : State} {g : JFrame} {mk : MethodId} {a : Array Value} (h : co_Ex G U) : co_Ex G (U.calling g mk a) := by
  obtain ⟨h5, h6, h7⟩ := h
  have hvm : U.vm.Alike (U.calling g mk a).vm := Vm.Alike.refl U.vm
  refine ⟨fun t ht => h5 t ht, fun w hw => ?_, fun t ht => over_moved hvm (h7 t ht)⟩
  have hq : w.onTables = true := by
    obtain ⟨x, -, rfl⟩ := List.mem_map.mp hw
    rfl
  exact va_Nw.same (u := U) hq rfl (h6 w hw)
/-- the world of an object that is made at the heap's end -/
def nw_G (G : ma_G) (h : Nat) : ma_G := (fun k r => if k < 2 then G.ad k r else h + (co_off k + r.toNat), G.dA, G.dC, G.dI, h, G.LS, fun k => decide (k < 69))
theorem nw_row : ∀ a, a < 71 → ((ma_ck a).1 = 5 ∨ (ma_ck a).1 = 6) → decide (a < 69) = true → decide (a + 1 < 69) = true := by decide +kernel
theorem nw_rows2 : ∀ k, k < 2 → (ma_ck k).2.2 = 1 := by decide +kernel
theorem nw_AD {G : ma_G} {h : Nat} (hA : ma_AD G) (a0 : G.ad 0 0 < h) (a1 : G.ad 1 0 < h) : ma_AD (nw_G G h) := by
  have lv0 : ∀ {k : Nat} {r : Int}, ma_val (nw_G G h) k r → k < 69 := fun {k r} z => of_decide_eq_true z.2.2.2
  have lo : ∀ {k : Nat} {r : Int}, ma_val (nw_G G h) k r → k < 2 → r = 0 ∧ ma_val G k r := fun {k r} z hk => by
    have h1 := nw_rows2 k hk
    have h2 := z.2.1
    have h3 := z.2.2.1
    have e : r = 0 := by omega
    refine ⟨e, z.1, z.2.1, z.2.2.1, ?_⟩
    have : k = 0 ∨ k = 1 := by omega
    rcases this with rfl | rfl
    · exact hA.2.2.2.1
    · exact hA.2.2.2.2.1
  have ad : ∀ (k : Nat) (r : Int), (nw_G G h).ad k r = if k < 2 then G.ad k r else h + (co_off k + r.toNat) := fun _ _ => rfl
  have low : ∀ {k : Nat} {r : Int}, ma_val (nw_G G h) k r → k < 2 → G.ad k r < h := fun {k r} z hk => by
    obtain ⟨e, -⟩ := lo z hk
    subst e
    have : k = 0 ∨ k = 1 := by omega
    rcases this with rfl | rfl
    · exact a0
    · exact a1
  refine ⟨fun k k' r r' hv hv' e => ?_, fun k r hv h2 => ?_, hA.2.2.1, rfl, rfl, fun a h5 hl => ?_⟩
  · rw [ad, ad] at e
    by_cases c : k < 2
    · rw [if_pos c] at e
      by_cases c' : k' < 2
      · rw [if_pos c'] at e
        exact hA.1 k k' r r' (lo hv c).2 (lo hv' c').2 e
      · rw [if_neg c'] at e
        have := low hv c
        omega
    · rw [if_neg c] at e
      by_cases c' : k' < 2
      · rw [if_pos c'] at e
        have := low hv' c'
        omega
      · rw [if_neg c'] at e
        exact st_inj ⟨lv0 hv, hv.2.1, hv.2.2.1⟩ ⟨lv0 hv', hv'.2.1, hv'.2.2.1⟩ (by omega) (by omega) (by omega)
  · rw [ad, if_neg (by omega)]
    show h ≤ _
    omega
  · have hl' : decide (a < 69) = true := hl
    exact nw_row a (by have := of_decide_eq_true hl'; omega) h5 hl'
theorem nw_KX {G : ma_G} {U : State} {h : Nat} (hK : ma_KK G U) (hA : ma_AD G) (X : co_Ex G U) (a0 : G.ad 0 0 < h) (a1 : G.ad 1 0 < h) (hz : h ≤ U.heap.size) : co_KX (nw_G G h) U :=
  ⟨hK, nw_AD hA a0 a1, hz, fun k r hv h2 => by show (if k < 2 then G.ad k r else h + (co_off k + r.toNat)) = _; rw [if_neg (by omega)]; rfl, X.1, X.2.1, X.2.2, fun k hk => decide_eq_true hk⟩
/-- the memory of a new object -/
def nw_mu (μ : ma_M) : ma_M := fun k r i => if k < 2 then μ k r i else 0
theorem co_memF (k : Nat) (hk : k < 69) (i : Int) : co_mem co_F k i = 0 := by
  unfold co_mem
  rw [if_neg (by omega), if_neg (by omega)]
theorem nw_HR {G : ma_G} {U : State} {H H1 : Heap} {μ : ma_M} (K : co_KX (nw_G G H.size) U) (hl : G.lv 0 = true ∧ G.lv 1 = true) (h : ma_HR G U μ H) (ho : ∀ q : Nat, q < H.size → H1[q]? = H[q]?) (hH : co_H (nw_G G H.size) co_F H1) : ma_HR (nw_G G H.size) U (nw_mu μ) H1 := by
  intro k r hv
  have hk : k < 69 := of_decide_eq_true hv.2.2.2
  by_cases h2 : 2 ≤ k
  · have hin := st_in k hk h2
    have hiv : co_in co_F k r := ⟨⟨hk, hv.2.1, hv.2.2.1⟩, h2, by rw [co_evs.1]; have := hv.2.2.1; have := hv.2.1; omega⟩
    obtain ⟨c1, c2, c3⟩ := hH.2 k r hiv
    have hmu : ∀ i, nw_mu μ k r i = 0 := fun i => by unfold nw_mu; rw [if_neg (by omega)]
    refine ⟨fun z => ⟨?_, fun i hi0 hi1 => ?_⟩, c2, fun z => ?_, fun ci z => ?_⟩
    · rw [c1 z]
      congr 2
      funext j
      rw [hmu, co_memF k hk]
    · rw [hmu]
      unfold ma_can
      split <;> exact ⟨by decide, by decide⟩
    · rcases st_k8 k hk h2 with y | y <;> omega
    · have hci : ci < 11 := by rcases st_k8 k hk h2 with y | y <;> omega
      have e10 : (ma_ck k).1 - 10 = ci := by omega
      have hf60 : ∀ f, f < ma_N ci → f < 60 := fun f hf => Nat.lt_of_lt_of_le hf (co_N60 ci hci)
      refine ⟨(c3 ci z).to (fun f hf => ?_), fun f hf => ?_⟩
      · unfold co_fv ma_fv
        have f4 := st_no4 ci hci f (hf60 f hf)
        by_cases f1 : ma_fk ci f = 1
        · rw [if_pos f1, if_pos f1, hmu]; rfl
        · rw [if_neg f1, if_neg f1]
          by_cases f3 : ma_fk ci f = 3
          · rw [if_pos f3, if_pos f3, if_pos (st_P0 k hk f (hf60 f hf) (by omega) (Or.inl (by rw [e10]; exact f3)))]
          · rw [if_neg f3, if_neg f3, if_neg f4, if_neg f4, hmu]; rfl
      · unfold ma_fcan
        have f4 := st_no4 ci hci f (hf60 f hf)
        by_cases f1 : ma_fk ci f = 1
        · rw [if_pos f1, hmu]; exact ⟨by decide, by decide⟩
        · rw [if_neg f1]
          by_cases f3 : ma_fk ci f = 3
          · rw [if_pos f3]
            obtain ⟨r1, r2⟩ := co_rf_val ci hci k hk z f hf f3
            exact co_vm K ⟨r1, Int.le_refl _, by exact_mod_cast r2⟩
          · rw [if_neg f3, if_neg f4, hmu]; exact ⟨by decide, by decide⟩
  · have h1 := nw_rows2 k (by omega)
    have hv0 : ma_val G k r := ⟨hv.1, hv.2.1, hv.2.2.1, by
      have : k = 0 ∨ k = 1 := by omega
      rcases this with rfl | rfl
      · exact hl.1
      · exact hl.2⟩
    obtain ⟨-, -, g3, -⟩ := h k r hv0
    have k78 : (ma_ck k).1 = 7 ∨ (ma_ck k).1 = 8 := by
      have : k = 0 ∨ k = 1 := by omega
      rcases this with rfl | rfl
      · exact .inr rfl
      · exact .inl rfl
    have ead : (nw_G G H.size).ad k r = G.ad k r := if_pos (by omega)
    have emu : nw_mu μ k = μ k := by funext a b; exact if_pos (by omega)
    refine ⟨fun z => by omega, fun z => by omega, fun z => ?_, fun ci z => by omega⟩
    obtain ⟨cell, e1, e2⟩ := g3 z
    refine ⟨cell, ?_, ?_⟩
    · rw [ead, ho _ (Array.getElem?_eq_some_iff.mp e1).1]; exact e1
    · rw [emu]; exact e2
section NW
variable {p : Program} {l : Launch} {e : Env} {R : Room} {s : State} {m : MethodId} {args : Array Value} {below : List Frame} {meth : Method} {c : Code} {Q : State → Prop} {G : ma_G} {cc : ByteArray} {o nL pc : Nat}
set_option maxHeartbeats 1000000 in
/-- new; dup; invokespecial, in a frame: the object stands at the heap's end -/
theorem nw_obj {i j : Nat} {H : Heap} {locs : List Loc} {als : Array Slot} {vs : List Value} {cells slots : Nat} (C : ma_Cx p s m args c G cc o nL) (hLn : nL = c.maxLocals) (X : co_Ex G s) (hcl : (o, i, 10) ∈ co_cl) (hlk : (o, j, 10) ∈ co_lk)
    (d0 : decode cc pc = .ok (.new i, 3)) (d3 : decode cc (pc + 3) = .ok (.dup, 1)) (d4 : decode cc (pc + 4) = .ok (.invokespecial j, 3)) (hR : 15 ≤ R.frames ∧ 415 ≤ R.locals) (hc : cells + 281 ≤ R.cells) (hs : slots + 20000 ≤ R.slots)
    (hS : va_S (ma_A G) s.heap H locs) (a0 : G.ad 0 0 < H.size) (a1 : G.ad 1 0 < H.size) (hsz : als.size = nL) (h8 : (vs.map fun v => v.category).sum ≤ 7)
    (hk : ∀ (H1 : Heap) (locs1 : List Loc), co_H (nw_G G H.size) co_F H1 → H.size ≤ H1.size → (∀ q : Nat, q < H.size → H1[q]? = H[q]?) → va_S (ma_A G) s.heap H1 locs1 → W p l e R s m args below meth c H1 locs1 (cells + 281) (slots + 20000) Q (F0 m (pc + 7) als (.ref H.size :: vs))) :
    W p l e R s m args below meth c H locs cells slots Q (F0 m pc als vs) := by
  have hKK := C.2.2.2.2.2.1
  have hAD := C.2.2.2.2.2.2.1
  have hKn := hKK.2.2 10 (by decide)
  have hts := C.2.2.2.2.1
  refine W.newcK (g := F0 m pc als vs) C.1 C.2.1 C.2.2.2.1 (hts _ (co_cl_in _ (List.mem_map.mpr ⟨_, hcl, rfl⟩))) (hts _ (co_ins_w 10 (by decide))) (hts _ (co_ini_w 10 (by decide))) rfl d0 (by omega) (by have : ma_N 10 = 11 := rfl; omega) hKn.2.1 rfl (fun H1 kC hkC e1 z1 o1 => ?_)
  refine lv_dup C.1 C.2.1 d3 rfl ?_
  have hA1 : ma_A (nw_G G H.size) = fun q => H.size ≤ q := rfl
  have hH1 : co_H (nw_G G H.size) co_s1 H1 := by
    refine ⟨z1, fun k r hv => ?_⟩
    have hoff : co_off k + r.toNat < 1 := hv.2.2
    have h02 : co_off 2 = 0 := rfl
    obtain ⟨rfl, rfl⟩ : k = 2 ∧ r = 0 := st_inj hv.1 (show co_val 2 0 from ⟨by decide, by decide, by decide⟩) hv.2.1 (Nat.le_refl 2) (by show co_off k + r.toNat = co_off 2 + 0; omega)
    refine ⟨fun z => absurd z (by decide), fun z => absurd z (by decide), fun ci z => ?_⟩
    have hcc : ci = 10 := by have : (20 : Nat) = 10 + ci := z; omega
    subst hcc
    have ead : (nw_G G H.size).ad 2 0 = H.size := by show (if (2 : Nat) < 2 then G.ad 2 0 else H.size + (co_off 2 + (0 : Int).toNat)) = _; rw [if_neg (by decide), h02]; rfl
    rw [ead]
    refine (u_born (ma_fty 10) hts (ma_u_in 10 (by decide)) hKn hkC e1 (ma_ty_ok 10 (by decide))).to (fun f hf => ?_)
    rw [co_fk_null 10 (by decide) f hf]
    unfold co_fv
    rw [if_neg (show ¬ (2, f) ∈ co_s1.2.2.1 from List.not_mem_nil), if_neg (show ¬ (2, f) ∈ co_s1.2.2.1 from List.not_mem_nil)]
  have hS1 : va_S (ma_A G) s.heap H1 locs := ⟨Nat.le_trans hS.1 (by omega), fun q q1 q2 => (o1 q (by have := hS.1; omega)).trans (hS.2.1 q q1 q2), hS.2.2⟩
  obtain ⟨hplain, hmh, hvh, hpar, hnl, ho1, ho2, ho3, hi9, -⟩ := co_cls_ok 10 (by decide)
  obtain ⟨hnm, hst, hrt⟩ := hi9 (by decide)
  have hv2 : ma_val (nw_G G H.size) 2 0 := ⟨by decide, by decide, by decide, rfl⟩
  have ead2 : (nw_G G H.size).ad 2 0 = H.size := by show (if (2 : Nat) < 2 then G.ad 2 0 else H.size + (co_off 2 + (0 : Int).toNat)) = _; rw [if_neg (by decide)]; rfl
  have hpre : PreS s H1 (co_Pc (nw_G G H.size) [ma_Rf 2 0] co_s1) [Value.ref H.size] :=
    ⟨co_blind _ _ _, fun U hU hW => ⟨⟨_, rfl, ⟨⟨by rw [ead2], hv2⟩, trivial⟩⟩, by rw [hU]; exact hH1, nw_KX (hKK.moved hW.alike) hAD (X.moved hW) a0 a1 (by rw [hU]; omega)⟩⟩
  have hsw := hts _ (co_ms_ok 10 (by decide))
  rw [hst] at hsw
  have hini := hts _ (co_ini_w (co_o 10) ho2)
  rw [← ho3, ← ho1] at hini
  have hgi := co_goodIn (y := 10) (by decide)
  have hcw : co_cw 10 = .code (co_y 10) (co_b 10) (co_nL 10) none := rfl
  have hM : Met l (co_y 10) (co_cw 10 :: ma_WG) (co_rm 4 (co_F.1 - 1) (co_F.2.1 - 11)) (co_Pc (nw_G G H.size) [ma_Rf 2 0] co_s1) (va_Qv (fun _ : Unit => True) (fun _ t => co_H (nw_G G H.size) co_F t.heap) (ma_A (nw_G G H.size))) (co_F.1 - 1) (co_F.2.1 - 11) (ma_A (nw_G G H.size)) := co_run_ok l (nw_G G H.size) 4 10 [ma_Rf 2 0] co_s1 none co_F (by decide) co_ev
  rw [hcw] at hM hgi
  have hF := co_evs
  have w1 : Cond.methodLink (ma_own o) j (co_y 10) ∈ ma_WG := co_lk_in _ (List.mem_map.mpr ⟨_, hlk, rfl⟩)
  have n11 : ma_N 10 = 11 := rfl
  have hrun : va_Run p l e R s m args below meth c H1 locs (cells + 1) (slots + ma_N 10) (co_F.1 - 1) (co_F.2.1 - 11) (F0 m (pc + 4) als (.ref H.size :: .ref H.size :: vs)) (.ref H.size :: vs) (va_Qv (fun _ : Unit => True) (fun _ t => co_H (nw_G G H.size) co_F t.heap) (ma_A (nw_G G H.size)) (Value.ref H.size :: []).toArray) (ma_A (nw_G G H.size)) :=
    va_runI (nL := nL) (Ts := ma_WG) ⟨C.1, C.2.1, hLn.symm, C.2.2.2.1, hts⟩ hM (cwI (co_na 10) hts hgi rfl rfl rfl hini (hts _ w1) hsw hnm ⟨hmh, hvh, hpar⟩ (co_roomC ⟨by omega, by omega⟩ hnl)) hpre rfl rfl hsz rfl (by show 2 * 0 + (1 + (vs.map fun v => v.category).sum) ≤ 8; omega) d4 ⟨by omega, by omega⟩
  refine va_callv (A0 := ma_A G) hrun hS1 (fun q _ z => ?_) (fun q z => ?_) (fun u t H2 locs2 h1 h2 h3 h5 h6 h7 h8 => ?_)
  · have z : H.size ≤ q := z
    exact Nat.le_trans (Nat.le_trans C.2.2.2.2.2.2.2.1 hS.1) z
  · have z : H.size ≤ q := z
    exact Nat.le_trans (Nat.le_trans C.2.2.2.2.2.2.2.1 hS.1) z
  · refine W.widen (by omega) (by omega) (hk H2 locs2 (by rw [← h1]; exact h5) (by omega) (fun q hq => ?_) h8)
    rw [h7 q (by omega) (fun z => by have z : H.size ≤ q := z; omega), o1 q hq]
end NW
