/-! the methods, by the depth of calls; each of them keeps its contract on the JVM -/
/-- what a method's body owes where it ends -/
def ma_DD (E : ma_E) (Post : ma_R → ma_M → Prop) : ma_Dn := fun r k μ => k ≤ E.2.2.2 ∧ match r with
  | .inl v => Post (.inl v) μ
  | .inr e => E.2.1 = [] ∧ 0 < E.2.2.2 ∧ Post (.inr e) μ
def ma_EE (LS y : Nat) : ma_E := (LS, ma_hh y, ma_rk y, ma_wc y)
/-- calls of depth d -/
def ma_Ox (LS : Nat) : Nat → ma_O
  | 0 => fun _ _ _ _ => False
  | d + 1 => fun y as μ Post => y < ma_nM ∧ as.all ma_nU = true ∧ (ma_slots as).length ≤ ma_nL y ∧ ma_run (ma_Ox LS d) (ma_EE LS y) (ma_at (ma_bt y)) (ma_DD (ma_EE LS y) Post) 0 (ma_entry (ma_nL y) as) [] 0 μ
theorem ma_hh_hc : ∀ y, y < ma_nM → (ma_hh y = [] → ma_hc y = []) ∧ ((ma_hc y).isEmpty = true → ma_hh y = []) := by decide +kernel
theorem ma_NCD_ot : ∀ w ∈ ma_nests ++ (ma_casts ++ ma_decls), w.onTables = true := by
  intro w hw
  rcases List.mem_append.mp hw with q | q
  · obtain ⟨x, -, rfl⟩ := List.mem_map.mp q; rfl
  · rcases List.mem_append.mp q with q | q
    · obtain ⟨x, -, rfl⟩ := List.mem_map.mp q; rfl
    · obtain ⟨x, -, rfl⟩ := List.mem_map.mp q; rfl
section MET
variable {p : Program} {l : Launch} {e : Env} {R : Room} {s : State} {m : MethodId} {args : Array Value} {below : List Frame} {meth : Method} {c : Code} {Q : State → Prop} {G : ma_G} {cc : ByteArray} {o nL c0 s0 pc k pp : Nat} {qq : Int} {ls st : List ma_V} {μ : ma_M} {O : ma_O} {E : ma_E} {K : ma_K} {J : ma_J} {D : ma_Dn}
theorem ma_throw_at (C : ma_Cx p s m args c G cc 10 nL) (hLn : nL = c.maxLocals) (hls : l.stackTraces = false) (hlocks : meth.locks = false) (hex : ∀ x ∈ c.exceptionTable.toList, False) {e9 t9 mc : Nat} {Qc : Array Value → State → Outcome → State → Prop} {Post : ma_R → ma_M → Prop} {H : Heap} {locs : List Loc} {ls : Array Slot}
    (hH : ma_HR G s μ H) (hS : va_S (ma_A G) s.heap H locs) (hsz : ls.size = nL) (ht : ma_thr[t9]? = some (10, (ma_thr.getD t9 (0, 0, 0, 0)).2.1, (ma_thr.getD t9 (0, 0, 0, 0)).2.2.1, e9))
    (d0 : decode cc pc = .ok (.new (ma_thr.getD t9 (0, 0, 0, 0)).2.1, 3)) (d3 : decode cc (pc + 3) = .ok (.dup, 1)) (d4 : decode cc (pc + 4) = .ok (.invokespecial (ma_thr.getD t9 (0, 0, 0, 0)).2.2.1, 3)) (d7 : decode cc (pc + 7) = .ok (.athrow, 1))
    (hr1 : 10 ≤ R.frames) (hr2 : 200 ≤ R.locals) (hr3 : mc ≤ R.cells) (hr4 : 6 * mc ≤ R.slots) (hk : k + 1 ≤ mc) (hp : Post (.inr e9) μ) :
    W p l e R s m args below meth c H locs (0 + k) (0 + 6 * k) (vx_MQ below Qc (ma_XC G mc Post) args s mc (6 * mc) (ma_A G)) (F0 m pc ls []) := by
  have key : ∀ (ik ic e8 : Nat), e8 < 5 → decode cc pc = .ok (.new ik, 3) → decode cc (pc + 4) = .ok (.invokespecial ic, 3) → (10, ik, ic, e8) ∈ ma_thr → Post (.inr e8) μ → (∀ w ∈ (vx_at0 (ma_own 10) ic (ma_ex e8) ma_sup).filter goodWord, w ∈ lw_tbl) → (∀ w ∈ (vx_at0 (ma_own 10) ic (ma_ex e8) ma_sup).filter (fun w => !goodWord w), w ∈ ma_nests ++ (ma_casts ++ ma_decls)) →
      (∀ w ∈ Cond.classLink (ma_own 10) ik (ma_ex e8) :: Cond.initialized (ma_ex e8) :: vx_at0 (ma_own 10) ic (ma_ex e8) ma_sup, vx_ot w = true) → Cond.initialized (ma_ex e8) ∈ ma_WG → Bundle.fit (ma_ex e8) = true → (∀ n ∈ ma_sup, Bundle.fit n = true) →
      W p l e R s m args below meth c H locs (0 + k) (0 + 6 * k) (vx_MQ below Qc (ma_XC G mc Post) args s mc (6 * mc) (ma_A G)) (F0 m pc ls []) := by
    intro ik ic e8 he8 d0 d4 hm hp t1 t2 t3 t4 t5 t6
    obtain ⟨n1, n2, n3, -, -⟩ := C.2.2.2.2.2.2.2.2
    refine vx_throw0 (mc := mc) (ms := 6 * mc) C.1 C.2.1 hls C.2.2.2.1 t5 t6 (C.2.2.2.2.1 _ (ma_WG_in (ma_thr_in _ (List.mem_map.mpr ⟨_, hm, rfl⟩)) (ma_thr_good _ (List.mem_map.mpr ⟨_, hm, rfl⟩)))) (C.2.2.2.2.1 _ t4)
      (vx_hat (fun w hw => C.2.2.2.2.1 _ (ma_WG_in (t1 w hw) (List.mem_filter.mp hw).2)) t2 (fun w hw => va_Nw.use (ma_NCD_ot w hw) (n1 w hw))) t3 n2 n3 hS (hsz.trans hLn) d0 d3 d4 d7 (fun x hx => (hex x hx).elim) (by show 2 + 3 < R.frames; omega) (by show 0 + (13 * (2 + 1) + 42) ≤ R.locals; omega) (by omega) (by omega) hlocks ?_ hS.2.2 (by omega) (by omega)
    intro t hvm hz hq
    have h1 : ma_HR G s μ t.heap := ma_HR_grow hH hq
    exact ⟨(e8, μ), ⟨by omega, hp⟩, ⟨rfl, he8, ma_HR.moved hvm h1⟩, ⟨Nat.le_trans hS.1 hz, fun q g1 g2 => (hq q (Nat.lt_of_lt_of_le g1 hS.1)).trans (hS.2.1 q g1 g2)⟩⟩
  have hsup : ∀ n ∈ ma_sup, Bundle.fit n = true := by decide +kernel
  match t9, ht, d0, d4 with
  | 0, ht, d0, d4 =>
    have e : e9 = 0 := by
      have h9 : some ((10 : Nat), _, _, (0 : Nat)) = some (10, _, _, e9) := ht
      simpa using (congrArg (fun z => (z.getD (0, 0, 0, 0)).2.2.2) h9).symm
    subst e
    exact key _ _ 0 (by decide) d0 d4 (by decide) hp ma_th0_in ma_th0_bad ma_th0_ot ma_th0_ini (by decide +kernel) hsup
  | 1, ht, d0, d4 =>
    have e : e9 = 1 := by
      have h9 : some ((10 : Nat), _, _, (1 : Nat)) = some (10, _, _, e9) := ht
      simpa using (congrArg (fun z => (z.getD (0, 0, 0, 0)).2.2.2) h9).symm
    subst e
    exact key _ _ 1 (by decide) d0 d4 (by decide) hp ma_th1_in ma_th1_bad ma_th1_ot ma_th1_ini (by decide +kernel) hsup
  | 2, ht, d0, d4 =>
    have e : e9 = 2 := by
      have h9 : some ((10 : Nat), _, _, (2 : Nat)) = some (10, _, _, e9) := ht
      simpa using (congrArg (fun z => (z.getD (0, 0, 0, 0)).2.2.2) h9).symm
    subst e
    exact key _ _ 2 (by decide) d0 d4 (by decide) hp ma_th2_in ma_th2_bad ma_th2_ot ma_th2_ini (by decide +kernel) hsup
  | 3, ht, d0, d4 =>
    have e : e9 = 3 := by
      have h9 : some ((10 : Nat), _, _, (3 : Nat)) = some (10, _, _, e9) := ht
      simpa using (congrArg (fun z => (z.getD (0, 0, 0, 0)).2.2.2) h9).symm
    subst e
    exact key _ _ 3 (by decide) d0 d4 (by decide) hp ma_th3_in ma_th3_bad ma_th3_ot ma_th3_ini (by decide +kernel) hsup
  | 4, ht, d0, d4 =>
    have e : e9 = 4 := by
      have h9 : some ((10 : Nat), _, _, (4 : Nat)) = some (10, _, _, e9) := ht
      simpa using (congrArg (fun z => (z.getD (0, 0, 0, 0)).2.2.2) h9).symm
    subst e
    exact key _ _ 4 (by decide) d0 d4 (by decide) hp ma_th4_in ma_th4_bad ma_th4_ot ma_th4_ini (by decide +kernel) hsup
  | n + 5, ht, d0, d4 => cases ht
end MET
/-- the contract of every method -/
theorem ma_Ct_all (l : Launch) (hls : l.stackTraces = false) (G : ma_G) (hLS : G.LS ≤ 2048) : ∀ (d y : Nat) (as : List ma_V) (μ : ma_M) (Post : ma_R → ma_M → Prop), ma_Ox G.LS d y as μ Post → ma_Ct l G d y as μ Post
  | 0, _, _, _, _, h => h.elim
  | d + 1, y, as, μ, Post, h => by
    obtain ⟨hy, hnu, hsl, hrun⟩ := h
    have IH := ma_Ct_all l hls G hLS d
    obtain ⟨hplain, hmh, hvh, hpar, hnl⟩ := ma_cls_ok y hy
    obtain ⟨hchk, hown0⟩ := ma_chk_all y hy
    obtain ⟨rt0, rt1, rt2, rt3, rt4, rt5, rt6⟩ := ma_ret_ok y hy
    have body : ∀ (p : Program) (e : Env) (s : State) (m : MethodId) (args : Array Value) (below : List Frame) (meth : Method) (c : Code) (s₁ : State), BodyLoose p l (ma_y y) (headSpec (ma_cw y :: ma_WG) (ma_rm (d + 1) (ma_wc y))) (ma_b y) (ma_nL y) (ma_ret y) e s m args below meth c s₁ → c.maxLocals = ma_nL y → c.exceptionTable.toList = tableOf (ma_hc y) → ma_Pc G as μ args s →
        W p l e (headSpec (ma_cw y :: ma_WG) (ma_rm (d + 1) (ma_wc y))).room s m args below meth c s.heap [] 0 0 (vx_MQ below (ma_Qc G (ma_rk y) Post) (ma_XC G (ma_wc y) Post) args s (ma_wc y) (6 * ma_wc y) (ma_A G)) (entryFrame m args (ma_nL y)) := by
      intro p e s m args below meth c s₁ B hml hT hPc
      obtain ⟨⟨vl, rfl, hRS⟩, hH, hKX⟩ := hPc
      have hts := atoms_spec (ws := ma_cw y :: ma_WG) B.pre
      have hown : s.vm.findClass (ma_y y).cls = some m.cls := findClass_of_methodNamed B.named
      have C : ma_Cx p s m vl.toArray c G (ma_b y) (ma_oi y) (ma_nL y) := ⟨B.exec, B.bytes, hml, by rw [hown0]; exact hown, fun w hw => hts w (List.mem_cons_of_mem _ hw), hKX.1, hKX.2.1, hKX.2.2.1, hKX.2.2.2⟩
      have hr := B.returns
      have hlocks := B.notSynchronized
      rw [lg_entry_eq]
      have hRo : ma_Ro (headSpec (ma_cw y :: ma_WG) (ma_rm (d + 1) (ma_wc y))).room (ma_EE G.LS y) 0 0 := ⟨by show 10 ≤ d + 1 + 10; omega, by show 200 ≤ 43 * (d + 1) + 200; omega, by show 0 + ma_wc y ≤ ma_wc y; omega, by show 0 + 6 * ma_wc y ≤ 6 * ma_wc y; omega⟩
      refine ma_s_run (Q := vx_MQ below (ma_Qc G (ma_rk y) Post) (ma_XC G (ma_wc y) Post) vl.toArray s (ma_wc y) (6 * ma_wc y) (ma_A G)) (c0 := 0) (s0 := 0) (d := d) C hml.symm ⟨rfl, hLS⟩ hchk ⟨by show d + 11 ≤ d + 1 + 10; omega, by show 43 * (d + 1) + 200 ≤ 43 * (d + 1) + 200; omega⟩ hRo (IH) (ma_hX_of hy C hown0 rfl hT) ?_ hrun s.heap [] _ [] hH va_S.rf (ma_entry_RL hRS hnu hsl) trivial
      intro k μ' H locs hH' hS'
      have mq : ∀ (v : Option Value) (hk : k ≤ ma_wc y) (g : JFrame), W p l e (headSpec (ma_cw y :: ma_WG) (ma_rm (d + 1) (ma_wc y))).room s m vl.toArray below meth c H locs (ma_wc y) (6 * ma_wc y) (MQ below (ma_Qc G (ma_rk y) Post) vl.toArray s (ma_wc y) (6 * ma_wc y) (ma_A G)) g → W p l e (headSpec (ma_cw y :: ma_WG) (ma_rm (d + 1) (ma_wc y))).room s m vl.toArray below meth c H locs (0 + k) (0 + 6 * k) (vx_MQ below (ma_Qc G (ma_rk y) Post) (ma_XC G (ma_wc y) Post) vl.toArray s (ma_wc y) (6 * ma_wc y) (ma_A G)) g := fun v hk g hw => W.widen (by omega) (by omega) (vx_ret hw)
      have hBw : ∀ t : State, t.heap = H → s.WarmedH t.vm → ma_Bw G μ' t := fun t ht hW => by
        show ma_HR G t μ' t.heap
        rw [ht]
        exact ma_HR.moved hW.alike hH'
      refine ⟨?_, ?_, ?_, ?_, ?_, ?_, ?_⟩
      · intro pc e9 ls rest q ce hc hD he hk h1 h2 h3
        obtain ⟨-, hh0, hw0, hp⟩ := hD
        have hc0 := (ma_hh_hc y hy).1 hh0
        refine vx_out (E := ma_ex e9) (fun x hx => ?_) hlocks h1 h2 h3 (fun t ht hvm => ?_) hS'.2.2 (by show 0 + k ≤ ma_wc y; have : k ≤ ma_wc y := hk; omega) (by have : k ≤ ma_wc y := hk; omega)
        · rw [hT, hc0] at hx
          cases hx
        · exact ⟨(e9, μ'), ⟨hw0, hp⟩, ⟨rfl, he, by show ma_HR G t μ' t.heap; rw [ht]; exact ma_HR.moved hvm hH'⟩, hS'.F ht⟩
      · intro pc e9 t9 ls ho hsz ht d0 d3 d4 d7 hh0 hk hD
        obtain ⟨-, -, hw0, hp⟩ := hD
        have hc0 := (ma_hh_hc y hy).1 hh0
        rw [ho] at C
        exact ma_throw_at (mc := ma_wc y) C hml.symm hls hlocks (fun x hx => by rw [hT, hc0] at hx; cases hx) hH' hS' hsz ht d0 d3 d4 d7 hRo.1 hRo.2.1 (Nat.le_refl _) (Nat.le_refl _) hk hp
      · intro pc x ls hd hres hD
        obtain ⟨hk, hp⟩ := hD
        refine mq none hk _ ?_
        have hres : ma_resI (ma_rk y) x.toInt := hres
        rcases hres with h1 | ⟨h1, h2⟩ | ⟨h1, h2⟩
        · rw [h1]
          exact W.iret (v := x) C.1 C.2.1 (hr.trans (rt1 h1)) (fun t ht hW => ⟨⟨x, μ', rfl, hp, hBw t ht hW⟩, hS'.F ht⟩) hS'.2.2 hd (hlocks := hlocks)
        · rw [h1]
          exact W.zret (v := x) C.1 C.2.1 (hr.trans (rt2 h1)) (ma_nbool h2).1 (fun t ht hW => ⟨⟨x, μ', rfl, hp, hBw t ht hW⟩, hS'.F ht⟩) hS'.2.2 hd (hlocks := hlocks)
        · rw [h1]
          exact W.zret (v := x) C.1 C.2.1 (hr.trans (rt3 h1)) (ma_nchar h2) (fun t ht hW => ⟨⟨x, μ', rfl, hp, hBw t ht hW⟩, hS'.F ht⟩) hS'.2.2 hd (hlocks := hlocks)
      · intro pc x ls hd h1 hD
        obtain ⟨hk, hp⟩ := hD
        refine mq none hk _ ?_
        have h1 : ma_rk y = 4 := h1
        rw [h1]
        exact W.lret (v := x) C.1 C.2.1 (hr.trans (rt4 h1)) (fun t ht hW => ⟨⟨x, μ', rfl, hp, hBw t ht hW⟩, hS'.F ht⟩) hS'.2.2 hd (hlocks := hlocks)
      · intro pc x ls hd h1 hD
        obtain ⟨hk, hp⟩ := hD
        refine mq none hk _ ?_
        have h1 : ma_rk y = 5 := h1
        rw [h1]
        exact W.fret (v := x) C.1 C.2.1 (hr.trans (rt5 h1)) (fun t ht hW => ⟨⟨x, μ', rfl, hp, hBw t ht hW⟩, hS'.F ht⟩) hS'.2.2 hd (hlocks := hlocks)
      · intro pc x ls hd h1 hD
        obtain ⟨hk, hp⟩ := hD
        refine mq none hk _ ?_
        have h1 : ma_rk y = 6 := h1
        rw [h1]
        exact W.dret (v := x) C.1 C.2.1 (hr.trans (rt6 h1)) (fun t ht hW => ⟨⟨x, μ', rfl, hp, hBw t ht hW⟩, hS'.F ht⟩) hS'.2.2 hd (hlocks := hlocks)
      · intro pc ls hd h1 hD
        obtain ⟨hk, hp⟩ := hD
        refine mq none hk _ ?_
        have h1 : ma_rk y = 0 := h1
        rw [h1]
        exact W.vret C.1 C.2.1 (hr.trans (rt0 h1)) (fun t ht hW => ⟨⟨μ', rfl, hp, hBw t ht hW⟩, hS'.F ht⟩) hS'.2.2 hd (hlocks := hlocks)
    unfold ma_Ct
    by_cases hhc : (ma_hc y).isEmpty = true
    · have hcw : ma_cw y = Cond.code (ma_y y) (ma_b y) (ma_nL y) (ma_ret y) := by unfold ma_cw; rw [if_pos hhc]
      refine vx_ofW hplain (ws' := ma_WG) (cc := ma_b y) (maxL := ma_nL y) (ret := ma_ret y) (by rw [hcw]) (fun p e s m args below meth c s₁ B hml hT hPc => body p e s m args below meth c s₁ B hml ?_ hPc)
      rw [List.isEmpty_iff.mp hhc]
      exact List.eq_nil_iff_forall_not_mem.mpr (fun x hx => hT x hx)
    · have hcw : ma_cw y = Cond.codeWith (ma_y y) (ma_b y) (ma_nL y) (ma_ret y) (ma_hc y) := by unfold ma_cw; rw [if_neg hhc]
      refine vx_ofWH hplain (ws' := ma_WG) (cc := ma_b y) (maxL := ma_nL y) (ret := ma_ret y) (hh := ma_hc y) (by rw [hcw]) (fun p e s m args below meth c s₁ B hml hPc => body p e s m args below meth c s₁ B hml ?_ hPc)
      have h9 := atoms_spec (ws := ma_cw y :: ma_WG) B.pre _ List.mem_cons_self
      rw [hcw] at h9
      exact vx_table (x := ma_y y) B h9
