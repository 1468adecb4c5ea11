/-! THE CLAIM OUT OF ONE WALK OF THE LAW'S BODY. Your part is whole_start (and what it stands on); all else here is the same for every law, but numbers. -/
def R_law : String := "LatticefitLaw"
def lw_P (b : Addr) (xs : List Int32) (args : Array Value) (s : State) : Prop := args = #[.ref b] ∧ s.IntsAt b xs ∧ xs.length ≤ 2048 ∧ (Jvm.Cond.and given_1 narrow_1).before args s = true
/-- what a walk over the start with the record d0 says of its end, said of the start itself -/
theorem lw_closed {s t : State} {o : Outcome} {d0 : Drawn} {L : List Loc} {k n : Nat} (hd0 : s.drawn.sameBut d0 lw_cs) (hv : ∃ v, o = .returned v) (hW : (s.setDrawn d0).WarmedH t.vm) (hs : (s.setDrawn d0).sameButNew ({ t with vm := s.vm } : State) L k n) : State.butDraws s t lw_cs (fun t1 => Framed s o t1 L k n) := by
  have h2 : t.drawn = d0 := congrArg State.drawn hs.1
  refine ⟨⟨hv, hW, State.sameButNew.setDrawn hs s.drawn⟩, ?_, by decide⟩
  rw [h2]
  exact hd0
def lw_Q (_ : Array Value) (s : State) (o : Outcome) (t : State) : Prop := o = .returned (some (.int 1)) ∧ State.butDraws s t lw_cs (fun t1 => Framed s o t1 [] 603072 7215210)
def lw_Z (below : List Frame) (a : Array Value) (s : State) : State → Prop := fun t => ∃ o, t.status = .running ∧ Ended t below o ∧ lw_Q a s o t
/-- the law's own end, with 1 on the stack, nothing written that was there before, its room as the claim has it; d0: the record of draws at this point (at the entry s.drawn: begin with 'refine W.base ?_' and 'have hd0 := Drawn.sameBut.refl s.drawn lw_cs') -/
theorem lw_ret {p : Program} {l : Launch} {e : Env} {s : State} {m : MethodId} {below : List Frame} {meth : Method} {c : Code} {b : Nat} {d0 : Drawn} (hd0 : s.drawn.sameBut d0 lw_cs) (hx : p.tables.exec = Jvm.exec) (hb : c.code = code) (hr : meth.sig.returnType = ret) (hlocks : meth.locks = false) {pc : Nat} {H : Heap} {ls : Array Slot} (hdg : decode code pc = .ok (.ireturn, 1)) : W p l e room_1 (s.setDrawn d0) m #[Value.ref b] below meth c H [] 603072 7215210 (lw_Z below #[Value.ref b] s) (F0 m pc ls [.int 1]) := by
  intro T hT X
  obtain ⟨fs, hret, hrun, hended, hW, hframe⟩ := X.leave (v := some (.int 1)) (hlocks := hlocks) (fun h => by rw [hr] at h; cases h)
  have hmeth' : T.vm.method? m = some meth := X.method'
  refine ⟨T.setFrames fs, ?_, .returned (some (.int 1)), hrun, hended, rfl, lw_closed hd0 ⟨_, rfl⟩ hW hframe⟩
  jvm_step X.here [X.here.top, hx, hb, hdg, hmeth', hr, ret, narrow_b1]
  (try refine ⟨rfl, ?_⟩); (try refine ⟨rfl, ?_⟩)
  first | (intro acts; rw [hret _ acts rfl rfl rfl]) | rw [hret _ _ rfl rfl rfl]
  exact Steps.refl _
/-- what holds at the law's entry: the machine, the code, the tables' words (any of lw_tbl by 'hts w (by decide +kernel)'), the script of L ints xs at the cell b, what the Statement gives of the start (any of its parts by flat_of_before) -/
def lw_At (p : Program) (s : State) (m : MethodId) (meth : Method) (c : Code) (b L : Nat) (xs : Nat → Int32) : Prop :=
  p.tables.exec = Jvm.exec ∧ c.code = code ∧ meth.sig.returnType = ret ∧ c.maxLocals = 9 ∧ s.vm.findClass R_law = some m.cls ∧ (∀ w ∈ lw_tbl, w.before #[Value.ref b] s = true) ∧ va_X b L xs s s.heap ∧ b < s.heap.size ∧ meth.locks = false ∧ (Jvm.Cond.and given_1 narrow_1).before #[Value.ref b] s = true
set_option maxHeartbeats 4000000 in
set_option maxRecDepth 100000 in
/-- THE LAW, from its entry -/
theorem whole_start {p : Program} {e : Env} {s : State} {m : MethodId} {below : List Frame} {meth : Method} {c : Code} (l : Launch) (hflags : l.flags = flags0) {b L : Nat} {xs : Nat → Int32} (hL : L ≤ 2048) (C0 : lw_At p s m meth c b L xs) : W p l e room_1 s m #[Value.ref b] below meth c s.heap [] 0 0 (lw_Z below #[Value.ref b] s) (entryFrame m ([Value.ref b] : List Value).toArray 9) := by
  obtain ⟨hx, hb, hr, hml, hown, hts, hX, hbl, hlocks, hgv⟩ := id C0
  have hls : l.stackTraces = false := by
    unfold Launch.stackTraces
    rw [hflags]
    decide
  have htg : ∀ w ∈ ma_WG, w.before #[Value.ref b] s = true := fun w hw => hts w (List.mem_filter.mp hw).1
  obtain ⟨G, pt, g1, g2, g3, g4, g5, K, E, hpat⟩ := st_G rfl hL hts hX hbl hgv
  have hown9 : s.vm.findClass (ma_own 12) = some m.cls := hown
  have Cc : co_Cx p s m #[Value.ref b] c G code 12 9 := ⟨hx, hb, hml, hown9, htg, K⟩
  have Cm : ma_Cx p s m #[Value.ref b] c G code 12 9 := ⟨hx, hb, hml, hown9, htg, K.1, K.2.1, K.2.2.1, E⟩
  have hLS : G.LS ≤ 2048 := by rw [g2]; exact hL
  rw [lg_entry_eq]
  have hRS : ma_RS G [ma_Rf 0 0] [Value.ref b] := ⟨⟨by rw [← g3], by decide, by decide, by decide⟩, trivial⟩
  have hH0 : co_H G co_s0 s.heap := ⟨by rw [g1]; rfl, fun k r hv => absurd hv.2.2 (Nat.not_lt_zero _)⟩
  have key := co_s_go (p := p) (l := l) (e := e) (R := room_1) (below := below) (meth := meth) (Q := lw_Z below #[Value.ref b] s) (n0 := 0) (s0 := 0) (d := 4) (pe := 28) (call := co_run 4) false Cc (fun z => by cases z) ⟨Nat.le_of_ble_eq_true rfl, Nat.le_of_ble_eq_true rfl⟩ (co_run_mono 4) (fun y as σ v σ' hy hc => co_run_ok l G 4 y as σ v σ' hy hc) co_chk_law (z := .inl (co_lF, [], co_F)) ⟨Nat.le_of_ble_eq_true rfl, Nat.le_of_ble_eq_true rfl⟩ ?_ 100000 co_pl 0 (ma_entry 9 [ma_Rf 0 0]) [] co_s0 co_chk_law co_ev ⟨Nat.le_refl _, Nat.le_refl _⟩ s.heap [] _ [] hH0 va_S.rf (ma_entry_RL hRS rfl (by decide)) trivial
  · exact key
  · intro H locs als vs hH hS hL9 hR9
    have hold : ∀ q : Nat, q < s.heap.size → H[q]? = s.heap[q]? := fun q hq => hS.2.1 q hq (fun z => by have z : G.h0 ≤ q := z; rw [g1] at z; exact absurd hq (Nat.not_lt.mpr z))
    obtain ⟨scr, x1, x2, x3, x4, x5⟩ := hX
    obtain ⟨pcell, p1, p2⟩ := hpat
    have hHR : ma_HR G s (st_mu xs) H := st_HR K hH ⟨scr, by rw [g3, hold b hbl]; exact x1, x2, x3, by rw [g2]; exact x4, fun j hj => x5 j (by rw [← g2]; exact hj)⟩ ⟨pcell, by rw [g4, hold pt g5]; exact p1, p2⟩
    have hE9 : ma_hE p l e room_1 s m #[Value.ref b] below meth c (lw_Z below #[Value.ref b] s) G code 12 9 325 20788 (G.LS, [], 2, 6200) (law_D 6200) := by
      intro k μ H locs hH hS
      refine ⟨fun pc e9 ls rest q ce _ hD => ?_, fun pc e9 t9 ls ho => ?_, fun pc x ls hd _ hD => ?_, fun pc x ls hd h1 => ?_, fun pc x ls hd h1 => ?_, fun pc x ls hd h1 => ?_, fun pc ls hd h1 => ?_⟩
      · cases hD.1
      · exact absurd ho (by decide)
      · obtain ⟨h1, h2⟩ := hD
        have h3 : x.toInt = 1 := by
          have h4 := Option.some.inj (Sum.inl.inj h1)
          exact Sum.inl.inj h4
        have hx1 : x = 1 := by
          rw [← ma_ofT h3]; rfl
        rw [hx1]
        refine va_forget (fun q hq => ?_) (W.widen (k := 603072) (n := 7215210) (by omega) (by omega) (W.base (lw_ret (Drawn.sameBut.refl s.drawn lw_cs) hx hb hr hlocks hd)))
        have := hS.2.2 q hq
        rw [← g1]; exact this
      · exact absurd (show (2 : Nat) = 4 from h1) (by decide)
      · exact absurd (show (2 : Nat) = 5 from h1) (by decide)
      · exact absurd (show (2 : Nat) = 6 from h1) (by decide)
      · exact absurd (show (2 : Nat) = 0 from h1) (by decide)
    have hX9 : ma_hX p l e room_1 s m #[Value.ref b] below meth c (lw_Z below #[Value.ref b] s) (G.LS, [], 2, 6200) := fun pc e9 h9 hc => by cases hc
    have main := st_run (p := p) (l := l) (e := e) (R := room_1) (below := below) (meth := meth) (Q := lw_Z below #[Value.ref b] s) (c0 := 325) (s0 := 20788) (d := 162) (pc := 28) (k := 0) (ls := co_lF) (st := []) (μ := st_mu xs) (O := ma_Ox G.LS 162) (E := (G.LS, [], 2, 6200)) (D := law_D 6200) Cm hml.symm ⟨rfl, hLS⟩ ⟨Nat.le_of_ble_eq_true rfl, Nat.le_of_ble_eq_true rfl⟩ ⟨Nat.le_of_ble_eq_true rfl, Nat.le_of_ble_eq_true rfl, Nat.le_of_ble_eq_true rfl, Nat.le_of_ble_eq_true rfl⟩ (ma_Ct_all l hls G hLS 162) hX9 hE9
      (fun R hR => law_loop (d := 0) hR hLS G.LS 0 0 (st_mu xs) (Int.le_refl 0) (by omega) (st_Rel xs) (by omega) ma_U ma_U ma_U) H locs als vs hHR hS hL9 hR9
    exact main
