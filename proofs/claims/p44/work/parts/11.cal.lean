/-! calls; contracts -/
def ma_Bw (G : ma_G) (u : ma_M) (t : State) : Prop := ma_HR G t u t.heap
/-- the number of a thrown class, and the memory there -/
def ma_XC (G : ma_G) (w : Nat) (Post : ma_R → ma_M → Prop) : String → State → State → Prop := vx_X (S := Nat × ma_M) (fun u => 0 < w ∧ Post (.inr u.1) u.2) (fun E u t => E = ma_ex u.1 ∧ u.1 < 5 ∧ ma_Bw G u.2 t) (ma_A G)
def ma_Qc (G : ma_G) (n : Nat) (Post : ma_R → ma_M → Prop) : Array Value → State → Outcome → State → Prop := match n with
  | 0 => va_Qv (fun u => Post (.inl none) u) (ma_Bw G) (ma_A G)
  | 4 => va_Ql (fun r u => Post (.inl (some (ma_L r.toInt))) u) (ma_Bw G) (ma_A G)
  | 5 => va_Qf (fun r u => Post (.inl (some (ma_F r))) u) (ma_Bw G) (ma_A G)
  | 6 => va_Qd (fun r u => Post (.inl (some (ma_D r))) u) (ma_Bw G) (ma_A G)
  | _ => va_Qi (fun r u => Post (.inl (some (ma_I r.toInt))) u) (ma_Bw G) (ma_A G)
def ma_rm (d w : Nat) : Room := { frames := d + 10, cells := w, slots := 6 * w, locals := 43 * d + 200 }
def ma_Pc (G : ma_G) (as : List ma_V) (μ : ma_M) : Array Value → State → Prop := fun v U => (∃ vl : List Value, v = vl.toArray ∧ ma_RS G as vl) ∧ ma_HR G U μ U.heap ∧ ma_KX G U
/-- a method's contract at these arguments and this memory -/
def ma_Ct (l : Launch) (G : ma_G) (d y : Nat) (as : List ma_V) (μ : ma_M) (Post : ma_R → ma_M → Prop) : Prop := vx_Met l (ma_y y) (ma_cw y :: ma_WG) (ma_rm d (ma_wc y)) (ma_Pc G as μ) (ma_Qc G (ma_rk y) Post) (ma_XC G (ma_wc y) Post) (ma_wc y) (6 * ma_wc y) (ma_A G)
theorem ma_blind (G : ma_G) (as : List ma_V) (μ : ma_M) : FrameBlind (ma_Pc G as μ) := fun _ _ _ _ h => ⟨h.1, h.2.1.moved (Vm.Alike.refl _), h.2.2.blind⟩
theorem ma_WGgood : ∀ w ∈ ma_WG, goodWord w = true := fun _ h => (List.mem_filter.mp h).2
theorem ma_goodIn {y : Nat} (hy : y < ma_nM) : GoodIn ma_WG (ma_cw y :: ma_WG) := goodIn_sub (fun w h => (List.mem_cons.mp h).elim (fun e => by rw [e]; exact ma_cw_ok y hy) id) (List.all_eq_true.mpr fun w h => (List.mem_cons.mp h).elim (fun e => by rw [e]; exact ma_WGgood _ (ma_cw_ok y hy)) (ma_WGgood w))
/-- the handlers of a body -/
def ma_hX (p : Program) (l : Launch) (e : Env) (R : Room) (s : State) (m : MethodId) (args : Array Value) (below : List Frame) (meth : Method) (c : Code) (Q : State → Prop) (E : ma_E) : Prop := ∀ (pc e9 h9 : Nat), ma_catch E.2.1 pc e9 = some h9 → e9 < 5 → ∀ (H : Heap) (locs : List Loc) (cells slots : Nat) (ls : Array Slot) (rest : List Value) (q : Addr) (ce : Cell), H[q]? = some ce → ce.vm = .none → s.vm.findClass (ma_ex e9) = some ce.cls →
  W p l e R s m args below meth c H locs cells slots Q (F0 m h9 ls [.ref q]) → vx_W p l e R s m args below meth c H locs cells slots Q (F0 m pc ls rest) q
/-- the ends of a body -/
def ma_hE (p : Program) (l : Launch) (e : Env) (R : Room) (s : State) (m : MethodId) (args : Array Value) (below : List Frame) (meth : Method) (c : Code) (Q : State → Prop) (G : ma_G) (cc : ByteArray) (o nL c0 s0 : Nat) (E : ma_E) (D : ma_Dn) : Prop := ∀ (k : Nat) (μ : ma_M) (H : Heap) (locs : List Loc), ma_HR G s μ H → va_S (ma_A G) s.heap H locs →
  (∀ (pc e9 : Nat) (ls : Array Slot) (rest : List Value) (q : Addr) (ce : Cell), ma_catch E.2.1 pc e9 = none → D (.inr e9) k μ → e9 < 5 → k ≤ E.2.2.2 → H[q]? = some ce → ce.vm = .none → s.vm.findClass (ma_ex e9) = some ce.cls → vx_W p l e R s m args below meth c H locs (c0 + k) (s0 + 6 * k) Q (F0 m pc ls rest) q) ∧
  (∀ (pc e9 t9 : Nat) (ls : Array Slot), o = 10 → ls.size = nL → ma_thr[t9]? = some (10, (ma_thr.getD t9 (0, 0, 0, 0)).2.1, (ma_thr.getD t9 (0, 0, 0, 0)).2.2.1, e9) → decode cc pc = .ok (.new (ma_thr.getD t9 (0, 0, 0, 0)).2.1, 3) → decode cc (pc + 3) = .ok (.dup, 1) → decode cc (pc + 4) = .ok (.invokespecial (ma_thr.getD t9 (0, 0, 0, 0)).2.2.1, 3) → decode cc (pc + 7) = .ok (.athrow, 1) → E.2.1 = [] → k + 1 ≤ E.2.2.2 → D (.inr e9) (k + 1) μ → W p l e R s m args below meth c H locs (c0 + k) (s0 + 6 * k) Q (F0 m pc ls [])) ∧
  (∀ (pc : Nat) (x : Int32) (ls : Array Slot), decode cc pc = .ok (.ireturn, 1) → ma_resI E.2.2.1 x.toInt → D (.inl (some (ma_I x.toInt))) k μ → W p l e R s m args below meth c H locs (c0 + k) (s0 + 6 * k) Q (F0 m pc ls [.int x])) ∧
  (∀ (pc : Nat) (x : Int64) (ls : Array Slot), decode cc pc = .ok (.lreturn, 1) → E.2.2.1 = 4 → D (.inl (some (ma_L x.toInt))) k μ → W p l e R s m args below meth c H locs (c0 + k) (s0 + 6 * k) Q (F0 m pc ls [.long x])) ∧
  (∀ (pc : Nat) (x : UInt32) (ls : Array Slot), decode cc pc = .ok (.freturn, 1) → E.2.2.1 = 5 → D (.inl (some (ma_F x))) k μ → W p l e R s m args below meth c H locs (c0 + k) (s0 + 6 * k) Q (F0 m pc ls [.float x])) ∧
  (∀ (pc : Nat) (x : UInt64) (ls : Array Slot), decode cc pc = .ok (.dreturn, 1) → E.2.2.1 = 6 → D (.inl (some (ma_D x))) k μ → W p l e R s m args below meth c H locs (c0 + k) (s0 + 6 * k) Q (F0 m pc ls [.double x])) ∧
  (∀ (pc : Nat) (ls : Array Slot), decode cc pc = .ok (.return_, 1) → E.2.2.1 = 0 → D (.inl none) k μ → W p l e R s m args below meth c H locs (c0 + k) (s0 + 6 * k) Q (F0 m pc ls []))
section CAL
variable {p : Program} {l : Launch} {e : Env} {R : Room} {s : State} {m : MethodId} {args : Array Value} {below : List Frame} {meth : Method} {c : Code} {Q : State → Prop} {G : ma_G} {cc : ByteArray} {o nL c0 s0 pc k pp : Nat} {qq : Int} {ls st : List ma_V} {μ : ma_M} {O : ma_O} {E : ma_E} {K : ma_K} {J : ma_J} {D : ma_Dn}
variable {d y w : Nat} {as rest : List ma_V} {H : Heap} {locs : List Loc} {als : Array Slot} {vs st0 : List Value} {Post : ma_R → ma_M → Prop} {a : Array Value}
/-- behind a call -/
theorem ma_after {n : Nat} (hr : vx_Run p l e R s m args below meth c H locs (c0 + k) (s0 + 6 * k) w (6 * w) (F0 m pc als st0) vs (ma_Qc G n (ma_cont E pc ls rest (k + w) K J D) a) (ma_XC G w (ma_cont E pc ls rest (k + w) K J D)) (ma_A G)) (hw : k + w ≤ E.2.2.2)
    (hX : ma_hX p l e R s m args below meth c Q E) (hE : ma_hE p l e R s m args below meth c Q G cc o nL c0 s0 E D) (hL : ma_RL G nL ls als) (hR : ma_RS G rest vs) (hS : va_S (ma_A G) s.heap H locs)
    (hK : ∀ ls st k μ, K ls st k μ → ma_W p l e R s m args below meth c Q G nL c0 s0 (pc + 3) ls st k μ) (hJ : ∀ pc' ls st k μ, J pc' ls st k μ → ma_W p l e R s m args below meth c Q G nL c0 s0 pc' ls st k μ) : W p l e R s m args below meth c H locs (c0 + k) (s0 + 6 * k) Q (F0 m pc als st0) := by
  have ec : c0 + k + w = c0 + (k + w) := Nat.add_assoc _ _ _
  have es : s0 + 6 * k + 6 * w = s0 + 6 * (k + w) := by omega
  have back : ∀ (u : ma_M) (t : State) (H1 : Heap), t.heap = H1 → s.vm.Alike t.vm → ma_Bw G u t → ma_HR G s u H1 := fun u t H1 h1 h2 h3 => by
    rw [← h1]; exact ma_HR.moved h2.symm h3
  have kx : ∀ (E9 : String) (ce : Cell) (q9 : Addr) (u : Nat × ma_M) (t : State) (H1 : Heap) (locs1 : List Loc), t.heap = H1 → s.vm.Alike t.vm → (0 < w ∧ ma_cont E pc ls rest (k + w) K J D (.inr u.1) u.2) → (E9 = ma_ex u.1 ∧ u.1 < 5 ∧ ma_Bw G u.2 t) → H.size ≤ H1.size → (∀ q : Nat, q < H.size → ¬ ma_A G q → H1[q]? = H[q]?) → va_S (ma_A G) s.heap H1 locs1 → H1[q9]? = some ce → ce.vm = .none → s.vm.findClass E9 = some ce.cls → vx_W p l e R s m args below meth c H1 locs1 (c0 + k + w) (s0 + 6 * k + 6 * w) Q (F0 m pc als vs) q9 := by
    intro E9 ce q9 u t H1 locs1 h1 h2 h3 h4 _ _ h5 h6 h7 h8
    obtain ⟨rfl, h9, h10⟩ := h4
    rw [ec, es]
    have hH1 := back _ _ _ h1 h2 h10
    have h3 : (match ma_catch E.2.1 pc u.1 with | some h => J h ls [ma_X u.1] (k + w) u.2 | none => D (.inr u.1) (k + w) u.2) := h3.2
    cases hc : ma_catch E.2.1 pc u.1 with
    | none =>
      rw [hc] at h3
      exact (hE _ _ _ _ hH1 h5).1 pc u.1 als vs q9 ce hc h3 h9 hw h6 h7 h8
    | some h =>
      rw [hc] at h3
      exact hX pc u.1 h hc h9 _ _ _ _ _ _ _ _ h6 h7 h8 (hJ _ _ _ _ _ h3 H1 locs1 als _ hH1 h5 hL ⟨⟨q9, rfl⟩, trivial⟩)
  have kv : ∀ (v : ma_V) (w9 : Value) (u : ma_M) (t : State) (H1 : Heap) (locs1 : List Loc), t.heap = H1 → s.vm.Alike t.vm → K ls (v :: rest) (k + w) u → ma_Bw G u t → va_S (ma_A G) s.heap H1 locs1 → ma_Rv G v w9 → W p l e R s m args below meth c H1 locs1 (c0 + k + w) (s0 + 6 * k + 6 * w) Q (F0 m (pc + 3) als (w9 :: vs)) := by
    intro v w9 u t H1 locs1 h1 h2 h3 h4 h5 h6
    rw [ec, es]
    exact hK _ _ _ _ h3 H1 locs1 als _ (back _ _ _ h1 h2 h4) h5 hL ⟨h6, hR⟩
  match n, hr with
  | 0, hr => exact vx_callv (a := a) hr hS (fun _ _ h => h) (fun _ h => h) (fun _ _ h => h) kx (fun u t H1 locs1 h1 h2 h3 h4 _ _ h5 => by
      rw [ec, es]
      exact hK _ _ _ _ h3 H1 locs1 als _ (back _ _ _ h1 h2 h4) h5 hL hR)
  | 4, hr => exact vx_calll (a := a) hr hS (fun _ _ h => h) (fun _ h => h) (fun _ _ h => h) kx (fun r u t H1 locs1 h1 h2 h3 h4 _ _ h5 => kv (ma_L r.toInt) _ u t H1 locs1 h1 h2 h3 h4 h5 ⟨r, rfl, rfl⟩)
  | 5, hr => exact vx_callf (a := a) hr hS (fun _ _ h => h) (fun _ h => h) (fun _ _ h => h) kx (fun r u t H1 locs1 h1 h2 h3 h4 _ _ h5 => kv (ma_F r) _ u t H1 locs1 h1 h2 h3 h4 h5 rfl)
  | 6, hr => exact vx_calld (a := a) hr hS (fun _ _ h => h) (fun _ h => h) (fun _ _ h => h) kx (fun r u t H1 locs1 h1 h2 h3 h4 _ _ h5 => kv (ma_D r) _ u t H1 locs1 h1 h2 h3 h4 h5 rfl)
  | 1, hr => exact vx_calli (a := a) hr hS (fun _ _ h => h) (fun _ h => h) (fun _ _ h => h) kx (fun r u t H1 locs1 h1 h2 h3 h4 _ _ h5 => kv (ma_I r.toInt) _ u t H1 locs1 h1 h2 h3 h4 h5 ⟨r, rfl, rfl⟩)
  | 2, hr => exact vx_calli (a := a) hr hS (fun _ _ h => h) (fun _ h => h) (fun _ _ h => h) kx (fun r u t H1 locs1 h1 h2 h3 h4 _ _ h5 => kv (ma_I r.toInt) _ u t H1 locs1 h1 h2 h3 h4 h5 ⟨r, rfl, rfl⟩)
  | 3, hr => exact vx_calli (a := a) hr hS (fun _ _ h => h) (fun _ h => h) (fun _ _ h => h) kx (fun r u t H1 locs1 h1 h2 h3 h4 _ _ h5 => kv (ma_I r.toInt) _ u t H1 locs1 h1 h2 h3 h4 h5 ⟨r, rfl, rfl⟩)
  | n + 7, hr => exact vx_calli (a := a) hr hS (fun _ _ h => h) (fun _ h => h) (fun _ _ h => h) kx (fun r u t H1 locs1 h1 h2 h3 h4 _ _ h5 => kv (ma_I r.toInt) _ u t H1 locs1 h1 h2 h3 h4 h5 ⟨r, rfl, rfl⟩)
theorem ma_pop_e : ∀ (n : Nat) (st acc as rest : List ma_V), ma_pop n st acc = some (as, rest) → ∃ bs, bs.length = n ∧ st = bs ++ rest ∧ as = bs.reverse ++ acc
  | 0, st, acc, as, rest, h => by
    cases h
    exact ⟨[], rfl, rfl, rfl⟩
  | n + 1, [], acc, as, rest, h => by cases h
  | n + 1, v :: st, acc, as, rest, h => by
    obtain ⟨bs, h1, h2, h3⟩ := ma_pop_e n st (v :: acc) as rest h
    exact ⟨v :: bs, by rw [List.length_cons, h1], by rw [h2]; rfl, by rw [h3, List.reverse_cons, List.append_assoc]; rfl⟩
theorem ma_roomC (hR : d + 11 ≤ R.frames ∧ 43 * (d + 1) + 200 ≤ R.locals) (hn : ma_nL y ≤ 24) : (ma_rm d w).frames + 1 ≤ R.frames ∧ 8 + (ma_nL y + 11) + (ma_rm d w).locals ≤ R.locals := by
  obtain ⟨h1, h2⟩ := hR
  refine ⟨?_, ?_⟩
  · show d + 10 + 1 ≤ _
    omega
  · show 8 + (ma_nL y + 11) + (43 * d + 200) ≤ _
    omega
/-- a virtual call -/
theorem ma_s_virt {i : Nat} {q : Nat} {a0 : Nat} {r0 : Int} (C : ma_Cx p s m args c G cc o nL) (hLn : nL = c.maxLocals) (hq : (o, i, y) ∈ ma_ml ∧ y < ma_nM ∧ ma_stat y = false ∧ (ma_hc y).isEmpty = true ∧ q < 11 ∧ (ma_y y).cls = ma_C q) (hd : decode cc pc = .ok (.invokevirtual i, 3))
    (hR : d + 11 ≤ R.frames ∧ 43 * (d + 1) + 200 ≤ R.locals) (hRo : ma_Ro R E c0 s0) (hO : ∀ y as μ Post, O y as μ Post → ma_Ct l G d y as μ Post)
    (hX : ma_hX p l e R s m args below meth c Q E) (hE : ma_hE p l e R s m args below meth c Q G cc o nL c0 s0 E D) (hK : ∀ ls st k μ, K ls st k μ → ma_W p l e R s m args below meth c Q G nL c0 s0 (pc + 3) ls st k μ) (hJ : ∀ pc' ls st k μ, J pc' ls st k μ → ma_W p l e R s m args below meth c Q G nL c0 s0 pc' ls st k μ)
    (hp : ma_pop (ma_na y) st [] = some (as, ma_Rf a0 r0 :: rest)) (hc : (ma_ck a0).1 = 10 + q) (h : ma_call O E pc ls y (ma_Rf a0 r0 :: as) rest k μ K J D) : ma_W p l e R s m args below meth c Q G nL c0 s0 pc ls st k μ := by
  obtain ⟨hl, hyn, hst, hhc, hq12, hcl⟩ := hq
  obtain ⟨h4, hw, hcall⟩ := h
  obtain ⟨bs, b1, b2, b3⟩ := ma_pop_e _ _ _ _ _ hp
  rw [List.append_nil] at b3
  subst b2
  intro H locs als vs0 hH hS hL hRS
  obtain ⟨ws, vs1, rfl, hRb, hR1⟩ := ma_RS_app hRS
  obtain ⟨_, vs, rfl, ⟨rfl, hv⟩, hR2⟩ := ma_RS_cons hR1
  have hv : ma_val G a0 r0 := hv
  have hc8 := ma_catW hR2 h4
  obtain ⟨r1, r2, r3, r4⟩ := hRo
  obtain ⟨hplain, hmh, hvh, hpar, hnl⟩ := ma_cls_ok y hyn
  have hcw : ma_cw y = Cond.code (ma_y y) (ma_b y) (ma_nL y) (ma_ret y) := by unfold ma_cw; rw [if_pos hhc]
  have hM := hO _ _ _ _ hcall
  unfold ma_Ct at hM
  rw [hcw] at hM
  have hlink := C.2.2.2.2.1 _ (ma_WG_in (ma_ml_in _ (List.mem_map.mpr ⟨_, hl, rfl⟩)) (ma_ml_good _ (List.mem_map.mpr ⟨_, hl, rfl⟩)))
  have hsw := C.2.2.2.2.1 _ (ma_sw_ok y hyn)
  rw [hst] at hsw
  have hgi := ma_goodIn hyn
  rw [hcw] at hgi
  have cw : CallW R s args (ma_own o) (ma_C q) i (ma_y y) (ma_b y) (ma_nL y) (ma_ret y) (Cond.code (ma_y y) (ma_b y) (ma_nL y) (ma_ret y) :: ma_WG) (ma_rm d (ma_wc y)) (ma_wc y) (6 * ma_wc y) (ma_na y) :=
    ⟨callB_of (ma_na y) C.2.2.2.2.1 hgi rfl rfl rfl (C.2.2.2.2.1 _ (ma_iw_ok y hyn)) hlink ⟨hmh, hvh, hpar⟩ (ma_roomC hR hnl), hsw, by rw [← hcl]; exact C.2.2.2.2.1 _ (ma_vw_ok y hyn hst)⟩
  have hob := ((hH a0 r0 hv).2.2.2 q hc).1
  obtain ⟨cell, q1, q2, q3, -⟩ := hob
  obtain ⟨-, hfc, -⟩ := C.2.2.2.2.2.1.2.2 q hq12
  have hpre : PreV s H (ma_C q) (G.ad a0 r0) (ma_Pc G (ma_Rf a0 r0 :: as) μ) ws.reverse := ⟨ma_blind _ _ _, ⟨cell, q1, by rw [q3]; rfl, by rw [q2]; exact hfc⟩, fun U hU hW => ⟨⟨_, rfl, ⟨rfl, hv⟩, by rw [b3]; exact ma_RS_rev hRb⟩, by rw [hU]; exact hH.moved hW.alike, ma_KX.moved hW (by rw [hU]; exact hS) ⟨C.2.2.2.2.2.1, C.2.2.2.2.2.2.1, C.2.2.2.2.2.2.2.1, C.2.2.2.2.2.2.2.2⟩⟩⟩
  refine ma_after (rest := rest) (vs := vs) (w := ma_wc y) (vx_runV (nL := nL) (Ts := ma_WG) ⟨C.1, C.2.1, hLn.symm, C.2.2.2.1, C.2.2.2.2.1⟩ hM cw hpre rfl (by rw [List.length_reverse, ma_RS_len hRb, b1]) hL.2.1 (by rw [List.reverse_reverse]) (by show 2 * 0 + _ ≤ 8; omega) hd ⟨by omega, by omega⟩) hw hX hE hL hR2 hS hK hJ
/-- a static call -/
theorem ma_s_stat {i : Nat} (C : ma_Cx p s m args c G cc o nL) (hLn : nL = c.maxLocals) (hq : (o, i, y) ∈ ma_ml ∧ y < ma_nM ∧ ma_stat y = true) (hd : decode cc pc = .ok (.invokestatic i, 3))
    (hR : d + 11 ≤ R.frames ∧ 43 * (d + 1) + 200 ≤ R.locals) (hRo : ma_Ro R E c0 s0) (hO : ∀ y as μ Post, O y as μ Post → ma_Ct l G d y as μ Post)
    (hX : ma_hX p l e R s m args below meth c Q E) (hE : ma_hE p l e R s m args below meth c Q G cc o nL c0 s0 E D) (hK : ∀ ls st k μ, K ls st k μ → ma_W p l e R s m args below meth c Q G nL c0 s0 (pc + 3) ls st k μ) (hJ : ∀ pc' ls st k μ, J pc' ls st k μ → ma_W p l e R s m args below meth c Q G nL c0 s0 pc' ls st k μ)
    (hp : ma_pop (ma_na y) st [] = some (as, rest)) (h : ma_call O E pc ls y as rest k μ K J D) : ma_W p l e R s m args below meth c Q G nL c0 s0 pc ls st k μ := by
  obtain ⟨hl, hyn, hst⟩ := hq
  obtain ⟨h4, hw, hcall⟩ := h
  obtain ⟨bs, b1, b2, b3⟩ := ma_pop_e _ _ _ _ _ hp
  rw [List.append_nil] at b3
  subst b2
  intro H locs als vs0 hH hS hL hRS
  obtain ⟨ws, vs, rfl, hRb, hR2⟩ := ma_RS_app hRS
  have hc8 := ma_catW hR2 h4
  obtain ⟨r1, r2, r3, r4⟩ := hRo
  obtain ⟨hplain, hmh, hvh, hpar, hnl⟩ := ma_cls_ok y hyn
  have hM := hO _ _ _ _ hcall
  unfold ma_Ct at hM
  have hlink := C.2.2.2.2.1 _ (ma_WG_in (ma_ml_in _ (List.mem_map.mpr ⟨_, hl, rfl⟩)) (ma_ml_good _ (List.mem_map.mpr ⟨_, hl, rfl⟩)))
  have hsw := C.2.2.2.2.1 _ (ma_sw_ok y hyn)
  rw [hst] at hsw
  have hgi := ma_goodIn hyn
  have hpre : PreS s H (ma_Pc G as μ) ws.reverse := ⟨ma_blind _ _ _, fun U hU hW => ⟨⟨_, rfl, by rw [b3]; exact ma_RS_rev hRb⟩, by rw [hU]; exact hH.moved hW.alike, ma_KX.moved hW (by rw [hU]; exact hS) ⟨C.2.2.2.2.2.1, C.2.2.2.2.2.2.1, C.2.2.2.2.2.2.2.1, C.2.2.2.2.2.2.2.2⟩⟩⟩
  have hini := C.2.2.2.2.1 _ (ma_iw_ok y hyn)
  have hlen : ∀ sig, parseMethodDescriptor (ma_y y).desc = some sig → ma_na y = sig.parameters.length := fun sig hs => by
    rw [hs] at hpar
    exact (Option.some.inj hpar).symm
  by_cases hhc : (ma_hc y).isEmpty = true
  · have hcw : ma_cw y = Cond.code (ma_y y) (ma_b y) (ma_nL y) (ma_ret y) := by unfold ma_cw; rw [if_pos hhc]
    rw [hcw] at hM hgi
    exact ma_after (rest := rest) (vs := vs) (w := ma_wc y) (vx_runS (nL := nL) (Ts := ma_WG) ⟨C.1, C.2.1, hLn.symm, C.2.2.2.1, C.2.2.2.2.1⟩ hM ⟨callB_of (ma_na y) C.2.2.2.2.1 hgi rfl rfl rfl hini hlink ⟨hmh, hvh, hpar⟩ (ma_roomC hR hnl), hsw⟩ hpre rfl (by rw [List.length_reverse, ma_RS_len hRb, b1]) hL.2.1 (by rw [List.reverse_reverse]) (by show 2 * 0 + _ ≤ 8; omega) hd ⟨by omega, by omega⟩) hw hX hE hL hR2 hS hK hJ
  · have hcw : ma_cw y = Cond.codeWith (ma_y y) (ma_b y) (ma_nL y) (ma_ret y) (ma_hc y) := by unfold ma_cw; rw [if_neg hhc]
    have hcb := C.2.2.2.2.1 _ (ma_cw_ok y hyn)
    rw [hcw] at hM hgi hcb
    exact ma_after (rest := rest) (vs := vs) (w := ma_wc y) (vx_runSX (nL := nL) (Ts := ma_WG) (hh := ma_hc y) ⟨C.1, C.2.1, hLn.symm, C.2.2.2.1, C.2.2.2.2.1⟩ hM ⟨⟨rfl, rfl, (ma_roomC (w := ma_wc y) hR hnl).1, (ma_roomC (w := ma_wc y) hR hnl).2, pay_in C.2.2.2.2.1 hgi, List.mem_cons_self⟩, hcb, hini, ⟨hmh, hvh⟩, hlen, hlink, hsw⟩ hpre rfl (by rw [List.length_reverse, ma_RS_len hRb, b1]) hL.2.1 (by rw [List.reverse_reverse]) (by show 2 * 0 + _ ≤ 8; omega) hd ⟨by omega, by omega⟩) hw hX hE hL hR2 hS hK hJ
end CAL
