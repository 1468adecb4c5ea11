/-! runs with exits; the cell 70, which each call of values makes anew; the contracts of values, areOutputs, ticks -/
def ma_rx (O : ma_O) (E : ma_E) (bl : ma_B) (D : ma_Dn) (X : ma_J) (pc : Nat) (ls st : List ma_V) (k : Nat) (μ : ma_M) : Prop := ∀ R : ma_J, ma_cl O E bl D R → (∀ (pc : Nat) (ls st : List ma_V) (k : Nat) (μ : ma_M), X pc ls st k μ → R pc ls st k μ) → R pc ls st k μ
section RX
variable {p : Program} {l : Launch} {e : Env} {R : Room} {s : State} {m : MethodId} {args : Array Value} {below : List Frame} {meth : Method} {c : Code} {Q : State → Prop} {G : ma_G} {cc : ByteArray} {o nL c0 s0 pc k pp : Nat} {qq : Int} {ls st : List ma_V} {μ : ma_M} {O : ma_O} {E : ma_E} {K : ma_K} {J : ma_J} {D : ma_Dn}
variable {d : Nat}
theorem ma_s_rx {t : ma_Tb} {X : ma_J} (C : ma_Cx p s m args c G cc o nL) (hLn : nL = c.maxLocals) (hLS : E.1 = G.LS ∧ G.LS ≤ 2048) (hchk : ma_chk cc o nL t = true)
    (hR : d + 11 ≤ R.frames ∧ 43 * (d + 1) + 200 ≤ R.locals) (hRo : ma_Ro R E c0 s0) (hO : ∀ y as μ Post, O y as μ Post → ma_Ct l G d y as μ Post)
    (hX : ma_hX p l e R s m args below meth c Q E) (hE : ma_hE p l e R s m args below meth c Q G cc o nL c0 s0 E D) (hx : ∀ (pc : Nat) (ls st : List ma_V) (k : Nat) (μ : ma_M), X pc ls st k μ → ma_W p l e R s m args below meth c Q G nL c0 s0 pc ls st k μ) (h : ma_rx O E (ma_at t) D X pc ls st k μ) : ma_W p l e R s m args below meth c Q G nL c0 s0 pc ls st k μ := by
  refine h (fun pc ls st k μ => ma_W p l e R s m args below meth c Q G nL c0 s0 pc ls st k μ) (fun pc b ls st k μ hb hd => ?_) hx
  obtain ⟨h1, h2⟩ := ma_chk_at hchk hb
  have h3 := ma_s_den C hLn hLS hR hRo hO hX hE (fun _ _ _ _ _ z => z) b.2 pc _ st k μ h2 hd
  intro H locs als vs hH hS hL hR9
  exact h3 H locs als vs hH hS (hL.msk h1) hR9
end RX
/-- another world: the cell 70 may lie elsewhere -/
def mv_G (G G' : ma_G) : Prop := (∀ (k : Nat) (r : Int), k ≠ 70 → G'.ad k r = G.ad k r) ∧ G'.dA = G.dA ∧ G'.dC = G.dC ∧ G'.dI = G.dI ∧ G'.h0 = G.h0 ∧ G'.LS = G.LS ∧ (∀ k, k ≠ 70 → G'.lv k = G.lv k) ∧ ma_AD G'
theorem mv_rf {G : ma_G} (h : ma_AD G) : mv_G G G := ⟨fun _ _ _ => rfl, rfl, rfl, rfl, rfl, rfl, fun _ _ => rfl, h⟩
theorem mv_tr {G G' G2 : ma_G} (h : mv_G G G') (h' : mv_G G' G2) : mv_G G G2 := ⟨fun k r z => (h'.1 k r z).trans (h.1 k r z), h'.2.1.trans h.2.1, h'.2.2.1.trans h.2.2.1, h'.2.2.2.1.trans h.2.2.2.1, h'.2.2.2.2.1.trans h.2.2.2.2.1, h'.2.2.2.2.2.1.trans h.2.2.2.2.2.1, fun k z => (h'.2.2.2.2.2.2.1 k z).trans (h.2.2.2.2.2.2.1 k z), h'.2.2.2.2.2.2.2⟩
theorem mv_A {G G' : ma_G} (h : mv_G G G') : ma_A G' = ma_A G := by unfold ma_A; rw [h.2.2.2.2.1]
theorem mv_KK {G G' : ma_G} {U : State} (h : mv_G G G') (K : ma_KK G U) : ma_KK G' U := by
  unfold ma_KK at K ⊢
  rw [h.2.1, h.2.2.1, h.2.2.2.1]
  exact K
theorem mv_EX {G G' : ma_G} {U : State} (h : mv_G G G') (K : ma_EX G U) : ma_EX G' U := by
  unfold ma_EX at K ⊢
  rw [mv_A h, h.1 1 0 (by decide)]
  exact K
theorem mv_KX {G G' : ma_G} {U : State} (h : mv_G G G') (K : ma_KX G U) : ma_KX G' U := ⟨mv_KK h K.1, h.2.2.2.2.2.2.2, by rw [h.2.2.2.2.1]; exact K.2.2.1, mv_EX h K.2.2.2⟩
theorem mv_Cx {p : Program} {s : State} {m : MethodId} {args : Array Value} {c : Code} {G G' : ma_G} {cc : ByteArray} {o nL : Nat} (h : mv_G G G') (C : ma_Cx p s m args c G cc o nL) : ma_Cx p s m args c G' cc o nL :=
  ⟨C.1, C.2.1, C.2.2.1, C.2.2.2.1, C.2.2.2.2.1, mv_KK h C.2.2.2.2.2.1, h.2.2.2.2.2.2.2, by rw [h.2.2.2.2.1]; exact C.2.2.2.2.2.2.2.1, mv_EX h C.2.2.2.2.2.2.2.2⟩
/-- no value is the cell 70 -/
def mv_nV (v : ma_V) : Bool := match v with | .inr (.inr (.inl a)) => !(Nat.beq a.1 70) | _ => true
theorem mv_Rv {G G' : ma_G} {v : ma_V} {w : Value} (h : mv_G G G') (hv : mv_nV v = true) (hr : ma_Rv G v w) : ma_Rv G' v w := by
  rcases v with n | n | a | b | b | q | u
  · exact hr
  · exact hr
  · have hv : (!(Nat.beq a.1 70)) = true := hv
    have ha : a.1 ≠ 70 := fun z => by rw [z] at hv; cases hv
    obtain ⟨h1, h2⟩ := hr
    exact ⟨by rw [h.1 a.1 a.2 ha]; exact h1, h2.1, h2.2.1, h2.2.2.1, by rw [h.2.2.2.2.2.2.1 a.1 ha]; exact h2.2.2.2⟩
  · exact hr
  · exact hr
  · exact hr
  · exact hr
theorem mv_RS {G G' : ma_G} (h : mv_G G G') : ∀ {st : List ma_V} {vs : List Value}, st.all mv_nV = true → ma_RS G st vs → ma_RS G' st vs
  | [], vs, _, hr => by rw [ma_RS_nil hr]; exact trivial
  | v :: st, vs, hn, hr => by
    obtain ⟨w, ws, rfl, h1, h2⟩ := ma_RS_cons hr
    rw [List.all_cons, Bool.and_eq_true] at hn
    exact ⟨mv_Rv h hn.1 h1, mv_RS h hn.2 h2⟩
theorem mv_RL {G G' : ma_G} {nL : Nat} {ls : List ma_V} {als : Array Slot} (h : mv_G G G') (hn : ls.all mv_nV = true) (hr : ma_RL G nL ls als) : ma_RL G' nL ls als :=
  ⟨hr.1, hr.2.1, hr.2.2.1, fun i v hv => by
    rcases hr.2.2.2 i v hv with z | ⟨w, z1, z2⟩
    · exact Or.inl z
    · exact Or.inr ⟨w, z1, mv_Rv h (List.all_eq_true.mp hn v (List.mem_of_getElem? hv)) z2⟩⟩
/-- the cell 70 at the heap's end -/
def mv_mk (G : ma_G) (h : Nat) : ma_G := (fun k r => if k = 70 then h else G.ad k r, G.dA, G.dC, G.dI, G.h0, G.LS, fun k => Nat.beq k 70 || G.lv k)
theorem mv_ad70 {G : ma_G} {h : Nat} : (mv_mk G h).ad 70 0 = h := by
  show (if (70 : Nat) = 70 then h else G.ad 70 0) = h
  exact if_pos rfl
def mv_mu (μ : ma_M) : ma_M := fun k r i => if k = 70 then 0 else μ k r i
theorem mv_kk : ∀ k, k < 71 → (ma_ck k).1 ≤ 4 ∨ (ma_ck k).1 = 5 ∨ (ma_ck k).1 = 6 ∨ (ma_ck k).1 = 7 ∨ (ma_ck k).1 = 8 ∨ (10 ≤ (ma_ck k).1 ∧ (ma_ck k).1 < 21) := by decide +kernel
theorem mv_k56 : ∀ k, k < 71 → ((ma_ck k).1 = 5 ∨ (ma_ck k).1 = 6 ∨ 10 ≤ (ma_ck k).1) → k < 69 ∧ k + 1 < 70 := by decide +kernel
theorem mv_lt {G : ma_G} {U : State} {μ : ma_M} {H : Heap} (h : ma_HR G U μ H) {k : Nat} {r : Int} (hv : ma_val G k r) : G.ad k r < H.size := by
  obtain ⟨h1, h2, h3, h4⟩ := h k r hv
  have lt : ∀ {cell : Cell}, H[G.ad k r]? = some cell → G.ad k r < H.size := fun z => (Array.getElem?_eq_some_iff.mp z).1
  rcases mv_kk k hv.1 with z | z | z | z | z | z
  · exact lt (h1 z).1
  · exact lt (h2 (.inl z))
  · exact lt (h2 (.inr z))
  · obtain ⟨cell, e, -⟩ := h3 (.inl z); exact lt e
  · obtain ⟨cell, e, -⟩ := h3 (.inr z); exact lt e
  · obtain ⟨⟨cell, e, -⟩, -⟩ := h4 ((ma_ck k).1 - 10) (by omega); exact lt e
theorem mv_mkG {G : ma_G} {h : Nat} (hA : ma_AD G) (hlt : ∀ (k : Nat) (r : Int), ma_val G k r → G.ad k r < h) (h0 : G.h0 ≤ h) : mv_G G (mv_mk G h) := by
  have vo : ∀ {k : Nat} {r : Int}, k ≠ 70 → ma_val (mv_mk G h) k r → ma_val G k r := fun {k r} hk z => ⟨z.1, z.2.1, z.2.2.1, by
    have z4 : (Nat.beq k 70 || G.lv k) = true := z.2.2.2
    rw [Bool.or_eq_true] at z4
    rcases z4 with z4 | z4
    · exact absurd (Nat.eq_of_beq_eq_true z4) hk
    · exact z4⟩
  have v70 : ∀ {k : Nat} {r : Int}, k = 70 → ma_val (mv_mk G h) k r → r = 0 := fun {k r} hk z => by
    have z2 := z.2.1
    have z3 := z.2.2.1
    rw [hk] at z3
    have : (ma_ck 70).2.2 = 1 := rfl
    omega
  have ad : ∀ (k : Nat) (r : Int), (mv_mk G h).ad k r = if k = 70 then h else G.ad k r := fun _ _ => rfl
  refine ⟨fun k r hk => by rw [ad, if_neg hk], rfl, rfl, rfl, rfl, rfl, fun k hk => ?_, ⟨fun k k' r r' hv hv' e => ?_, fun k r hv h2 => ?_, hA.2.2.1, ?_, ?_, fun a h5 hl => ?_⟩⟩
  · show (Nat.beq k 70 || G.lv k) = G.lv k
    have : Nat.beq k 70 = false := by
      cases hb : Nat.beq k 70 with
      | false => rfl
      | true => exact absurd (Nat.eq_of_beq_eq_true hb) hk
    rw [this]; rfl
  · rw [ad, ad] at e
    by_cases c : k = 70
    · rw [if_pos c] at e
      by_cases c' : k' = 70
      · exact ⟨c.trans c'.symm, by rw [v70 c hv, v70 c' hv']⟩
      · rw [if_neg c'] at e
        have := hlt k' r' (vo c' hv')
        omega
    · rw [if_neg c] at e
      by_cases c' : k' = 70
      · rw [if_pos c'] at e
        have := hlt k r (vo c hv)
        omega
      · rw [if_neg c'] at e
        exact hA.1 k k' r r' (vo c hv) (vo c' hv') e
  · rw [ad]
    by_cases c : k = 70
    · rw [if_pos c]; exact h0
    · rw [if_neg c]; exact hA.2.1 k r (vo c hv) h2
  · exact hA.2.2.2.1
  · exact hA.2.2.2.2.1
  · have hl : (Nat.beq a 70 || G.lv a) = true := hl
    have ha : a ≠ 70 := fun z => by rw [z] at h5; revert h5; decide
    have hb : Nat.beq a 70 = false := by
      cases hb : Nat.beq a 70 with
      | false => rfl
      | true => exact absurd (Nat.eq_of_beq_eq_true hb) ha
    rw [hb] at hl
    have := hA.2.2.2.2.2 a h5 hl
    show (Nat.beq (a + 1) 70 || G.lv (a + 1)) = true
    rw [this, Bool.or_true]
theorem mv_HR {G : ma_G} {U : State} {μ : ma_M} {H H1 : Heap} (h : ma_HR G U μ H) (ho : ∀ q : Nat, q < H.size → H1[q]? = H[q]?) (hn : H1[H.size]? = some (arrV (G.dA 0) 48 (fun _ => .int 0))) : ma_HR (mv_mk G H.size) U (mv_mu μ) H1 := by
  intro k r hv
  have ad : ∀ (k : Nat) (r : Int), (mv_mk G H.size).ad k r = if k = 70 then H.size else G.ad k r := fun _ _ => rfl
  by_cases hk : k = 70
  · subst hk
    have hr : r = 0 := by
      have z2 := hv.2.1
      have z3 := hv.2.2.1
      have : (ma_ck 70).2.2 = 1 := rfl
      omega
    subst hr
    refine ⟨fun _ => ⟨?_, fun i _ _ => ?_⟩, fun z => absurd z (by decide), fun z => absurd z (by decide), fun ci z => ?_⟩
    · rw [ad, if_pos rfl]
      exact hn
    · show ma_can 0 0
      exact ⟨by decide, by decide⟩
    · have : (0 : Nat) = 10 + ci := z
      omega
  · have hv0 : ma_val G k r := ⟨hv.1, hv.2.1, hv.2.2.1, by
      have z4 : (Nat.beq k 70 || G.lv k) = true := hv.2.2.2
      rw [Bool.or_eq_true] at z4
      rcases z4 with z4 | z4
      · exact absurd (Nat.eq_of_beq_eq_true z4) hk
      · exact z4⟩
    have ead : (mv_mk G H.size).ad k r = G.ad k r := by rw [ad, if_neg hk]
    have emu : mv_mu μ k = μ k := by funext a b; exact if_neg hk
    obtain ⟨h1, h2, h3, h4⟩ := h k r hv0
    have lt : ∀ {cell : Cell}, H[G.ad k r]? = some cell → H1[G.ad k r]? = some cell := fun {cell} z => by
      rw [ho _ (Array.getElem?_eq_some_iff.mp z).1]; exact z
    rw [ead, emu]
    refine ⟨fun z => ⟨lt (h1 z).1, (h1 z).2⟩, fun z => ?_, fun z => ?_, fun ci z => ?_⟩
    · have k69 := mv_k56 k hv.1 (by rcases z with z | z; exact .inl z; exact .inr (.inl z))
      have e : (fun j : Nat => Value.ref ((mv_mk G H.size).ad (k + 1) j)) = fun j : Nat => Value.ref (G.ad (k + 1) j) := by
        funext j; rw [ad, if_neg (by omega)]
      rw [e]
      exact lt (h2 z)
    · obtain ⟨cell, q1, q2⟩ := h3 z
      exact ⟨cell, lt q1, q2⟩
    · obtain ⟨⟨cell, q1, q2⟩, q3⟩ := h4 ci z
      have k69 := mv_k56 k hv.1 (by omega)
      have hci : ci < 11 := by rcases mv_kk k hv.1 with y | y | y | y | y | y <;> omega
      have rf : ∀ f, f < ma_N ci → ma_fk ci f = 3 → ma_rf k f ≠ 70 := fun f hf h3 => by
        have := (co_rf_val ci hci k k69.1 z f hf h3).1
        omega
      have no4 : ∀ f, f < ma_N ci → ma_fk ci f ≠ 4 := fun f hf => st_no4 ci hci f (Nat.lt_of_lt_of_le hf (co_N60 ci hci))
      refine ⟨(show t_OB (G.ad k r) (G.dC ci) (ma_N ci) (G.dI ci) H1 (fun f => ma_fv G μ k r ci f) from ⟨cell, lt q1, q2⟩).to (fun f hf => ?_), fun f hf => ?_⟩
      · unfold ma_fv
        rw [emu]
        by_cases f1 : ma_fk ci f = 1
        · rw [if_pos f1, if_pos f1]
        · rw [if_neg f1, if_neg f1]
          by_cases f3 : ma_fk ci f = 3
          · rw [if_pos f3, if_pos f3, ad, if_neg (rf f hf f3)]
          · rw [if_neg f3, if_neg f3, if_neg (no4 f hf), if_neg (no4 f hf)]
      · have q := q3 f hf
        unfold ma_fcan at q ⊢
        by_cases f1 : ma_fk ci f = 1
        · rw [if_pos f1] at q ⊢; exact q
        · rw [if_neg f1] at q ⊢
          by_cases f3 : ma_fk ci f = 3
          · rw [if_pos f3] at q ⊢
            exact ⟨q.1, q.2.1, q.2.2.1, by show (Nat.beq (ma_rf k f) 70 || G.lv (ma_rf k f)) = true; rw [q.2.2.2, Bool.or_true]⟩
          · rw [if_neg f3, if_neg (no4 f hf)] at q ⊢; exact q
/-- the contract of values -/
def vl_B (u : ma_G × ma_M) (a : Nat) (t : State) : Prop := a = u.1.ad 70 0 ∧ ma_HR u.1 t u.2 t.heap
def vl_Ct (l : Launch) (G : ma_G) (d : Nat) (μ : ma_M) (PV : ma_M → Prop) : Prop := Met l (ma_y mi_LatticefitLaw_values) (ma_cw mi_LatticefitLaw_values :: ma_WG) (ma_rm d 8) (ma_Pc G [ma_Rf 69 0] μ) (va_Qr (S := ma_G × ma_M) (fun u => mv_G G u.1 ∧ u.1.lv 70 = true ∧ PV u.2) vl_B (ma_A G)) 8 48 (ma_A G)
def mv_B (u : ma_G × ma_M) (t : State) : Prop := ma_HR u.1 t u.2 t.heap
def mv_Qc (G : ma_G) (n : Nat) (Post : ma_R → ma_M → Prop) : Array Value → State → Outcome → State → Prop := match n with
  | 0 => va_Qv (S := ma_G × ma_M) (fun u => mv_G G u.1 ∧ Post (.inl none) u.2) mv_B (ma_A G)
  | _ => va_Qi (S := ma_G × ma_M) (fun r u => mv_G G u.1 ∧ Post (.inl (some (ma_I r.toInt))) u.2) mv_B (ma_A G)
/-- a contract of a method that calls values -/
def mv_Ct (l : Launch) (G : ma_G) (d y : Nat) (as : List ma_V) (μ : ma_M) (Post : ma_R → ma_M → Prop) : Prop := Met l (ma_y y) (ma_cw y :: ma_WG) (ma_rm d (ma_wc y)) (ma_Pc G as μ) (mv_Qc G (ma_rk y) Post) (ma_wc y) (6 * ma_wc y) (ma_A G)
/-- nothing is owed to a body's own ends: it has none -/
def ma_nP : ma_R → ma_M → Prop := fun _ _ => False
theorem ma_hE_no {p : Program} {l : Launch} {e : Env} {R : Room} {s : State} {m : MethodId} {args : Array Value} {below : List Frame} {meth : Method} {c : Code} {Q : State → Prop} {G : ma_G} {cc : ByteArray} {o nL c0 s0 : Nat} {E : ma_E} : ma_hE p l e R s m args below meth c Q G cc o nL c0 s0 E (ma_DD E ma_nP) :=
  fun k μ H locs hH hS => ⟨fun _ _ _ _ _ _ _ h => (show False from h.2.2.2).elim, fun _ _ _ _ _ _ _ _ _ _ _ _ _ h => (show False from h.2.2.2).elim, fun _ _ _ _ _ h => (show False from h.2).elim, fun _ _ _ _ _ h => (show False from h.2).elim, fun _ _ _ _ _ h => (show False from h.2).elim, fun _ _ _ _ _ h => (show False from h.2).elim, fun _ _ _ _ h => (show False from h.2).elim⟩
theorem ma_hX_nil {p : Program} {l : Launch} {e : Env} {R : Room} {s : State} {m : MethodId} {args : Array Value} {below : List Frame} {meth : Method} {c : Code} {Q : State → Prop} {E : ma_E} (h : E.2.1 = []) : ma_hX p l e R s m args below meth c Q E := fun pc e9 h9 hc => by rw [h] at hc; cases hc
def vl_X (PV : ma_M → Prop) : ma_J := fun pc ls st k μ => pc = 88 ∧ k = 8 ∧ st = [] ∧ ls.getD 1 ma_U = ma_Rf 70 0 ∧ PV μ
theorem vl_chk : ma_chk (ma_b mi_LatticefitLaw_values) 11 4 mb_LatticefitLaw_values = true := by decide +kernel
theorem ar_chk : ma_chk (ma_b mi_LatticefitLaw_areOutputs) 11 6 mb_LatticefitLaw_areOutputs = true := by decide +kernel
theorem tk_chk : ma_chk (ma_b mi_LatticefitLaw_ticks) 11 5 mb_LatticefitLaw_ticks = true := by decide +kernel
theorem bg_chk : ma_chk (ma_b mi_LatticefitLaw_begun) 11 8 mb_LatticefitLaw_begun = true := by decide +kernel
set_option maxHeartbeats 1000000 in
theorem vl_Met (l : Launch) (hls : l.stackTraces = false) (G : ma_G) (hLS : G.LS ≤ 2048) (h69 : G.lv 69 = true) {d : Nat} {μ : ma_M} {PV : ma_M → Prop} (h : ma_rx (ma_Ox G.LS d) (G.LS, [], 9, 8) (ma_at mb_LatticefitLaw_values) (ma_DD (G.LS, [], 9, 8) ma_nP) (vl_X PV) 4 [ma_Rf 69 0, ma_U, ma_U, ma_U] [ma_Rf 70 0] 8 (mv_mu μ)) : vl_Ct l G (d + 1) μ PV := by
  have hy : mi_LatticefitLaw_values < ma_nM := by decide
  obtain ⟨hplain, hmh, hvh, hpar, hnl⟩ := ma_cls_ok _ hy
  unfold vl_Ct
  refine Met.ofW hplain (ws' := ma_WG) (cc := ma_b mi_LatticefitLaw_values) (maxL := 4) (ret := ma_ret mi_LatticefitLaw_values) rfl ?_
  intro p e s m args below meth c s₁ B hml hPc
  obtain ⟨⟨vl, rfl, hRS⟩, hH, hKX⟩ := hPc
  have hts := atoms_spec (ws := ma_cw mi_LatticefitLaw_values :: ma_WG) B.pre
  have hown : s.vm.findClass "LatticefitLaw" = some m.cls := findClass_of_methodNamed B.named
  have C : ma_Cx p s m vl.toArray c G (ma_b mi_LatticefitLaw_values) 11 4 := ⟨B.exec, B.bytes, hml, hown, fun w hw => hts w (List.mem_cons_of_mem _ hw), hKX.1, hKX.2.1, hKX.2.2.1, hKX.2.2.2⟩
  have hr := B.returns
  have hlocks := B.notSynchronized
  rw [lg_entry_eq]
  have hRL : ma_RL G 4 (ma_entry 4 [ma_Rf 69 0]) ((lg_sl vl ++ List.replicate (4 - (lg_sl vl).length) Slot.unset).toArray) := ma_entry_RL hRS rfl (by decide)
  generalize (lg_sl vl ++ List.replicate (4 - (lg_sl vl).length) Slot.unset).toArray = als at hRL
  refine lv_bipush C.1 C.2.1 (show decode (ma_b mi_LatticefitLaw_values) 0 = .ok (.bipush 48, 2) by decide +kernel) rfl ?_
  refine va_newaK (atype := .int) (g := F0 m 2 als [.int 48]) (N := 48) (rest := []) C.1 C.2.1 (C.2.2.2.2.1 _ (co_ac_w 0 (by decide))) rfl (show decode (ma_b mi_LatticefitLaw_values) 2 = .ok (.newarray .int, 2) by decide +kernel) rfl (by decide) (by decide) (by decide) (by show 0 + 1 ≤ 8; omega) (by show 0 + 48 ≤ 48; omega) rfl (fun H' cA e1 e2 e3 e4 e5 => ?_)
  have ecA : H'[s.heap.size]? = some (arrV (G.dA 0) 48 (fun _ => .int 0)) := by
    rw [e1]
    have : cA = G.dA 0 := Option.some.inj (e5.symm.trans hKX.1.2.1)
    rw [this]; rfl
  have hG : mv_G G (mv_mk G s.heap.size) := mv_mkG hKX.2.1 (fun k r hv => mv_lt hH hv) hKX.2.2.1
  have hHR : ma_HR (mv_mk G s.heap.size) s (mv_mu μ) H' := mv_HR hH e3 ecA
  have C' := mv_Cx hG C
  have hRL' : ma_RL (mv_mk G s.heap.size) 4 [ma_Rf 69 0, ma_U, ma_U, ma_U] als := mv_RL hG rfl hRL
  have hS' : va_S (ma_A (mv_mk G s.heap.size)) s.heap H' [] := ⟨by omega, fun q h1 _ => e3 q h1, fun _ z => by cases z⟩
  have hv70 : ma_val (mv_mk G s.heap.size) 70 0 := ⟨by decide, by decide, by decide, rfl⟩
  have hRS' : ma_RS (mv_mk G s.heap.size) [ma_Rf 70 0] [.ref s.heap.size] := ⟨⟨by show Value.ref _ = Value.ref ((mv_mk G s.heap.size).ad 70 0); rw [mv_ad70], hv70⟩, trivial⟩
  have main := ma_s_rx (p := p) (l := l) (e := e) (R := (headSpec (ma_cw mi_LatticefitLaw_values :: ma_WG) (ma_rm (d + 1) 8)).room) (below := below) (meth := meth) (Q := MQ below (va_Qr (S := ma_G × ma_M) (fun u => mv_G G u.1 ∧ u.1.lv 70 = true ∧ PV u.2) vl_B (ma_A G)) vl.toArray s 8 48 (ma_A G)) (c0 := 0) (s0 := 0) (d := d) (E := (G.LS, [], 9, 8)) (D := ma_DD (G.LS, [], 9, 8) ma_nP) (O := ma_Ox G.LS d) (X := vl_X PV) C' hml.symm ⟨rfl, hLS⟩ vl_chk ⟨by show d + 11 ≤ d + 1 + 10; omega, by show 43 * (d + 1) + 200 ≤ 43 * (d + 1) + 200; omega⟩ ⟨by show 10 ≤ d + 1 + 10; omega, by show 200 ≤ 43 * (d + 1) + 200; omega, by show 0 + 8 ≤ 8; omega, by show 0 + 6 * 8 ≤ 6 * 8; omega⟩ (ma_Ct_all l hls (mv_mk G s.heap.size) hLS d) (ma_hX_nil rfl) ma_hE_no ?_ h H' [] als [.ref s.heap.size] hHR hS' hRL' hRS'
  · exact W.widen (by omega) (by omega) main
  · intro pc ls st k μ' hx
    obtain ⟨rfl, rfl, rfl, hg, hp⟩ := hx
    intro H locs als vs hH2 hS2 hL2 hR2
    cases ma_RS_nil hR2
    obtain ⟨w, g1, g2⟩ := hL2.get hg ma_neU_R
    obtain ⟨rfl, -⟩ := g2
    refine lv_aload_n (i := 1) C.1 C.2.1 (show decode (ma_b mi_LatticefitLaw_values) 88 = .ok (.aload_n 1, 1) by decide +kernel) rfl g1 ?_
    refine W.aret (v := .ref ((mv_mk G s.heap.size).ad 70 0)) C.1 C.2.1 hr (Or.inr ⟨_, rfl⟩) (Or.inr ⟨_, rfl⟩) (fun t ht hW => ⟨⟨(mv_mk G s.heap.size, μ'), _, rfl, ⟨hG, rfl, hp⟩, rfl, by show ma_HR _ t μ' t.heap; rw [ht]; exact ma_HR.moved hW.alike hH2⟩, hS2.F ht⟩) hS2.2.2 (show decode (ma_b mi_LatticefitLaw_values) 89 = .ok (.areturn, 1) by decide +kernel) (hlocks := hlocks)
