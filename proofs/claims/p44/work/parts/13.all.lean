/-! what an instruction of a block must say, decided by a program; then every instruction of the small machine is true to the JVM -/
def ma_okl (o pc len : Nat) (ins : Instr) (p : Nat) (q : Int) : Bool := match ins with
  | .iload_n i => decide (len = 1)
  | .lload_n i => decide (len = 1)
  | .aload_n i => decide (len = 1)
  | .dload_n i => decide (len = 1)
  | .istore_n i => decide (len = 1)
  | .lstore_n i => decide (len = 1)
  | .dstore_n i => decide (len = 1)
  | .astore_n i => decide (len = 1)
  | .iload i => decide (len = 2)
  | .lload i => decide (len = 2)
  | .aload i => decide (len = 2)
  | .dload i => decide (len = 2)
  | .istore i => decide (len = 2)
  | .lstore i => decide (len = 2)
  | .dstore i => decide (len = 2)
  | .astore i => decide (len = 2)
  | .fload i => decide (len = 2)
  | .fstore i => decide (len = 2)
  | .iconst n => decide (len = 1) && decide ((Int32.ofInt n).toInt = q)
  | .bipush n => decide (len = 2) && decide ((Int8.ofInt n).toInt32.toInt = q)
  | .sipush n => decide (len = 3) && decide ((Int16.ofInt n).toInt32.toInt = q)
  | .lconst n => decide (len = 1) && decide ((Int64.ofNat n.val).toInt = q)
  | .dconst n => decide (len = 1)
  | .fconst n => decide (len = 1)
  | .ldc i => decide (len = 2) && decide ((p = 0 ∧ (o, i, q) ∈ ma_kI ∧ (-2147483648 ≤ q ∧ q < 2147483648)) ∨ (p ≠ 0 ∧ (o, i, q) ∈ ma_kF))
  | .ldc_w i => decide (len = 3) && decide ((p = 0 ∧ (o, i, q) ∈ ma_kI ∧ (-2147483648 ≤ q ∧ q < 2147483648)) ∨ (p ≠ 0 ∧ (o, i, q) ∈ ma_kF))
  | .ldc2_w i => decide (len = 3) && decide ((p = 0 ∧ (o, i, q) ∈ ma_kL ∧ -9223372036854775808 ≤ q ∧ q < 9223372036854775808) ∨ (p ≠ 0 ∧ (o, i, q) ∈ ma_kD))
  | .iadd => decide (len = 1)
  | .isub => decide (len = 1)
  | .imul => decide (len = 1)
  | .idiv => decide (len = 1)
  | .irem => decide (len = 1)
  | .iand => decide (len = 1)
  | .ior => decide (len = 1)
  | .ixor => decide (len = 1)
  | .ishl => decide (len = 1)
  | .ishr => decide (len = 1)
  | .iushr => decide (len = 1)
  | .ladd => decide (len = 1)
  | .lsub => decide (len = 1)
  | .lmul => decide (len = 1)
  | .ldiv => decide (len = 1)
  | .lrem => decide (len = 1)
  | .land => decide (len = 1)
  | .lor => decide (len = 1)
  | .lshl => decide (len = 1)
  | .lshr => decide (len = 1)
  | .lushr => decide (len = 1)
  | .i2l => decide (len = 1)
  | .l2i => decide (len = 1)
  | .i2c => decide (len = 1)
  | .i2d => decide (len = 1)
  | .i2f => decide (len = 1)
  | .f2d => decide (len = 1)
  | .ddiv => decide (len = 1)
  | .fdiv => decide (len = 1)
  | .lcmp => decide (len = 1)
  | .dup => decide (len = 1)
  | .pop => decide (len = 1)
  | .dup_x1 => decide (len = 1)
  | .dup2 => decide (len = 1)
  | .laload => decide (len = 1)
  | .baload => decide (len = 1)
  | .caload => decide (len = 1)
  | .aaload => decide (len = 1)
  | .iastore => decide (len = 1)
  | .lastore => decide (len = 1)
  | .bastore => decide (len = 1)
  | .castore => decide (len = 1)
  | .iaload => decide (len = 1)
  | .arraylength => decide (len = 1)
  | .dcmp op => decide (len = 1)
  | .fcmp op => decide (len = 1)
  | .iinc i n9 => decide (len = 3)
  | .goto off => decide (len = 3) && decide (0 ≤ (pc : Int) + off)
  | .ifCond cd off => decide (len = 3) && decide (0 ≤ (pc : Int) + off)
  | .if_icmp cd off => decide (len = 3) && decide (0 ≤ (pc : Int) + off)
  | .tableswitch d lo hi offs => decide (0 ≤ (pc : Int) + d ∧ ∀ off ∈ offs, 0 ≤ (pc : Int) + off)
  | .getfield i => decide (len = 3) && decide ((o, i, p, q.toNat) ∈ ma_fl ∧ 0 ≤ q ∧ p < 11 ∧ q.toNat < ma_N p)
  | .putfield i => decide (len = 3) && decide ((o, i, p, q.toNat) ∈ ma_fl ∧ 0 ≤ q ∧ p < 11 ∧ q.toNat < ma_N p ∧ (ma_T p q.toNat).2.2.2 = false)
  | .getstatic i => decide (len = 3) && decide ((o, i) ∈ ma_sl)
  | .invokevirtual i => decide (len = 3) && decide ((o, i, p) ∈ ma_ml ∧ p < ma_nM ∧ ma_stat p = false ∧ (ma_hc p).isEmpty = true ∧ q.toNat < 11 ∧ (ma_y p).cls = ma_C q.toNat)
  | .invokestatic i => decide (len = 3) && decide ((p = 10002 ∧ (o, i) ∈ ma_mx) ∨ (p = 10003 ∧ (o, i) ∈ ma_mn) ∨ (p = 10004 ∧ (o, i) ∈ ma_md) ∨ (p = 10000 ∧ (o, i) ∈ ma_cp) ∨ ((o, i, p) ∈ ma_ml ∧ p < ma_nM ∧ ma_stat p = true) ∨ ((o, i, p) ∈ ma_mN ∧ p < ma_nM ∧ ma_stat p = true ∧ ma_wc p = 0 ∧ ma_rk p = 2 ∧ (ma_hc p).isEmpty = true))
  | .ireturn => decide (len = 1)
  | .lreturn => decide (len = 1)
  | .freturn => decide (len = 1)
  | .dreturn => decide (len = 1)
  | .return_ => decide (len = 1)
  | _ => false
def ma_okb (cc : ByteArray) (o pc : Nat) (a : ma_AI) : Bool := match a with
  | (len, .athrow, p, q) => decide (len = 8 ∧ o = 10 ∧ ma_thr[q.toNat]? = some (10, (ma_thr.getD q.toNat (0, 0, 0, 0)).2.1, (ma_thr.getD q.toNat (0, 0, 0, 0)).2.2.1, p)) && (decide (decode cc pc = .ok (.new (ma_thr.getD q.toNat (0, 0, 0, 0)).2.1, 3)) && (decide (decode cc (pc + 3) = .ok (.dup, 1)) && (decide (decode cc (pc + 4) = .ok (.invokespecial (ma_thr.getD q.toNat (0, 0, 0, 0)).2.2.1, 3)) && decide (decode cc (pc + 7) = .ok (.athrow, 1)))))
  | (len, ins, p, q) => decide (decode cc pc = .ok (ins, len)) && ma_okl o pc len ins p q
theorem ma_cpy_e {st : List ma_V} {F : Int → Int → Nat × Int → Int → Nat × Int → List ma_V → Prop} (h : match st with | .inl n :: .inl dp :: .inr (.inr (.inl b)) :: .inl sp :: .inr (.inr (.inl a)) :: rest => F n dp b sp a rest | _ => False) : ∃ n dp b sp a rest, st = .inl n :: .inl dp :: .inr (.inr (.inl b)) :: .inl sp :: .inr (.inr (.inl a)) :: rest ∧ F n dp b sp a rest := by
  split at h
  · exact ⟨_, _, _, _, _, _, rfl, h⟩
  · exact h.elim
section ALL
variable {p : Program} {l : Launch} {e : Env} {R : Room} {s : State} {m : MethodId} {args : Array Value} {below : List Frame} {meth : Method} {c : Code} {Q : State → Prop} {G : ma_G} {cc : ByteArray} {o nL c0 s0 pc k pp : Nat} {qq : Int} {ls st : List ma_V} {μ : ma_M} {O : ma_O} {E : ma_E} {K : ma_K} {J : ma_J} {D : ma_Dn}
variable {d : Nat}
/-- a static call of a nest mate's private method -/
theorem ma_s_nest {y i : Nat} {as rest : List ma_V} (C : ma_Cx p s m args c G cc o nL) (hLn : nL = c.maxLocals) (hq : (o, i, y) ∈ ma_mN ∧ y < ma_nM ∧ ma_stat y = true ∧ ma_wc y = 0 ∧ ma_rk y = 2 ∧ (ma_hc y).isEmpty = true) (hd : decode cc pc = .ok (.invokestatic i, 3))
    (hR : d + 11 ≤ R.frames ∧ 43 * (d + 1) + 200 ≤ R.locals) (hRo : ma_Ro R E c0 s0) (hO : ∀ y as μ Post, O y as μ Post → ma_Ct l G d y as μ Post)
    (hK : ∀ ls st k μ, K ls st k μ → ma_W p l e R s m args below meth c Q G nL c0 s0 (pc + 3) ls st k μ) (hp : ma_pop (ma_na y) st [] = some (as, rest)) (h : ma_call O E pc ls y as rest k μ K J D) : ma_W p l e R s m args below meth c Q G nL c0 s0 pc ls st k μ := by
  obtain ⟨hl, hyn, hst, hw0, hrk, hhc⟩ := hq
  obtain ⟨h4, hw, hcall⟩ := h
  obtain ⟨bs, b1, b2, b3⟩ := ma_pop_e _ _ _ _ _ hp
  rw [List.append_nil] at b3
  subst b2
  intro H locs als vs0 hH hS hL hRS
  obtain ⟨ws, vs, rfl, hRb, hR2⟩ := ma_RS_app hRS
  have hc8 := ma_catW hR2 h4
  obtain ⟨r1, r2, r3, r4⟩ := hRo
  obtain ⟨hplain, hmh, hvh, hpar, hnl⟩ := ma_cls_ok y hyn
  have hM := hO _ _ _ _ hcall
  unfold ma_Ct at hM
  have hcw : ma_cw y = Cond.code (ma_y y) (ma_b y) (ma_nL y) (ma_ret y) := by unfold ma_cw; rw [if_pos hhc]
  rw [hcw, hw0, hrk] at hM
  have hM2 : Met l (ma_y y) (Cond.code (ma_y y) (ma_b y) (ma_nL y) (ma_ret y) :: ma_WG) (ma_rm d 0) (ma_Pc G as μ) (ma_Qc G 2 (ma_cont E pc ls rest (k + 0) K J D)) 0 0 (ma_A G) :=
    MetFree.mono hM (fun _ _ z => z) (fun _ _ _ _ _ z => z) (fun a st o9 t _ z => by
      rcases z with z | ⟨q, -, E9, ce, L, ⟨u, ⟨hz, -⟩, -⟩, -⟩
      · exact z
      · exact absurd hz (Nat.lt_irrefl 0))
  have hsw := C.2.2.2.2.1 _ (ma_sw_ok y hyn)
  rw [hst] at hsw
  have hgi := ma_goodIn hyn
  rw [hcw] at hgi
  have hpre : PreS s H (ma_Pc G as μ) ws.reverse := ⟨ma_blind _ _ _, fun U hU hW => ⟨⟨_, rfl, by rw [b3]; exact ma_RS_rev hRb⟩, by rw [hU]; exact hH.moved hW.alike, ma_KX.moved hW (by rw [hU]; exact hS) ⟨C.2.2.2.2.2.1, C.2.2.2.2.2.2.1, C.2.2.2.2.2.2.2.1, C.2.2.2.2.2.2.2.2⟩⟩⟩
  have hini := C.2.2.2.2.1 _ (ma_iw_ok y hyn)
  have hnw : va_Nw (Cond.methodLinkNest (ma_own o) i (ma_y y) "Latticefit") s := C.2.2.2.2.2.2.2.2.1 _ (List.mem_append_left _ (List.mem_map.mpr ⟨_, hl, rfl⟩))
  refine va_calli (va_runSN (nL := nL) (Ts := ma_WG) ⟨C.1, C.2.1, hLn.symm, C.2.2.2.1, C.2.2.2.2.1⟩ hM2 ⟨va_cnB (ma_na y) C.2.2.2.2.1 hgi rfl rfl rfl hnw hini ⟨hmh, hvh, hpar⟩ (ma_roomC (w := 0) hR hnl), hsw, trivial⟩ hpre rfl (by rw [List.length_reverse, ma_RS_len hRb, b1]) hL.2.1 (by rw [List.reverse_reverse]) (by show 2 * 0 + _ ≤ 8; omega) hd ⟨by show c0 + k + 0 ≤ _; omega, by show s0 + 6 * k + 0 ≤ _; omega⟩) hS (fun _ _ z => z) (fun _ z => z) (fun r u t H1 locs1 h1 h2 h3 h5 _ _ h6 => ?_)
  have hH1 : ma_HR G s u H1 := by rw [← h1]; exact ma_HR.moved h2.symm h5
  exact hK _ _ _ _ h3 H1 locs1 als (_ :: vs) hH1 h6 hL ⟨⟨r, rfl, rfl⟩, hR2⟩
/-- Math.max of doubles where the first is a number and not 0 -/
theorem ma_s_maxD {i : Nat} (hq : (o, i) ∈ ma_md) (hRo : ma_Ro R E c0 s0) (hLn : nL = c.maxLocals) (C : ma_Cx p s m args c G cc o nL) (hd : decode cc pc = .ok (.invokestatic i, 3)) (hK : ∀ ls st k μ, K ls st k μ → ma_W p l e R s m args below meth c Q G nL c0 s0 (pc + 3) ls st k μ)
    (h : ma_pD st fun y st => ma_pD st fun x st => st.length ≤ 4 ∧ k ≤ E.2.2.2 ∧ Op.cmpValue (FP.dcmp x x) .l = 0 ∧ Op.cmpValue (FP.dcmp y y) .l = 0 ∧ Op.cmpValue (FP.dcmp x 0) .l ≠ 0 ∧ K ls (ma_D (if Op.cmpValue (FP.dcmp x y) .l < 0 then y else x) :: st) k μ) : ma_W p l e R s m args below meth c Q G nL c0 s0 pc ls st k μ := by
  cases hq
set_option maxHeartbeats 4000000 in
/-- every instruction -/
theorem ma_s_all (a : ma_AI) (C : ma_Cx p s m args c G cc o nL) (hLn : nL = c.maxLocals) (hLS : E.1 = G.LS ∧ G.LS ≤ 2048) (hok : ma_okb cc o pc a = true)
    (hR : d + 11 ≤ R.frames ∧ 43 * (d + 1) + 200 ≤ R.locals) (hRo : ma_Ro R E c0 s0) (hO : ∀ y as μ Post, O y as μ Post → ma_Ct l G d y as μ Post)
    (hX : ma_hX p l e R s m args below meth c Q E) (hE : ma_hE p l e R s m args below meth c Q G cc o nL c0 s0 E D)
    (hK : ∀ ls st k μ, K ls st k μ → ma_W p l e R s m args below meth c Q G nL c0 s0 (pc + a.1) ls st k μ) (hJ : ∀ pc' ls st k μ, J pc' ls st k μ → ma_W p l e R s m args below meth c Q G nL c0 s0 pc' ls st k μ) (h : ma_step O E a.2.1 a.2.2.1 a.2.2.2 pc ls st k μ K J D) : ma_W p l e R s m args below meth c Q G nL c0 s0 pc ls st k μ := by
  obtain ⟨len, ins, p9, q9⟩ := a
  cases ins with
  | iload_n i =>
    have hok : (decide (decode cc pc = .ok (.iload_n i, len)) && (decide (len = 1))) = true := hok
    simp only [Bool.and_eq_true, decide_eq_true_eq] at hok
    obtain ⟨hd, rfl⟩ := hok
    exact ma_s_iload_n C hd hK hJ h
  | lload_n i =>
    have hok : (decide (decode cc pc = .ok (.lload_n i, len)) && (decide (len = 1))) = true := hok
    simp only [Bool.and_eq_true, decide_eq_true_eq] at hok
    obtain ⟨hd, rfl⟩ := hok
    exact ma_s_lload_n C hd hK hJ h
  | aload_n i =>
    have hok : (decide (decode cc pc = .ok (.aload_n i, len)) && (decide (len = 1))) = true := hok
    simp only [Bool.and_eq_true, decide_eq_true_eq] at hok
    obtain ⟨hd, rfl⟩ := hok
    exact ma_s_aload_n C hd hK hJ h
  | dload_n i =>
    have hok : (decide (decode cc pc = .ok (.dload_n i, len)) && (decide (len = 1))) = true := hok
    simp only [Bool.and_eq_true, decide_eq_true_eq] at hok
    obtain ⟨hd, rfl⟩ := hok
    exact ma_s_dload_n C hd hK hJ h
  | istore_n i =>
    have hok : (decide (decode cc pc = .ok (.istore_n i, len)) && (decide (len = 1))) = true := hok
    simp only [Bool.and_eq_true, decide_eq_true_eq] at hok
    obtain ⟨hd, rfl⟩ := hok
    exact ma_s_istore_n C hd hK hJ h
  | lstore_n i =>
    have hok : (decide (decode cc pc = .ok (.lstore_n i, len)) && (decide (len = 1))) = true := hok
    simp only [Bool.and_eq_true, decide_eq_true_eq] at hok
    obtain ⟨hd, rfl⟩ := hok
    exact ma_s_lstore_n C hd hK hJ h
  | dstore_n i =>
    have hok : (decide (decode cc pc = .ok (.dstore_n i, len)) && (decide (len = 1))) = true := hok
    simp only [Bool.and_eq_true, decide_eq_true_eq] at hok
    obtain ⟨hd, rfl⟩ := hok
    exact ma_s_dstore_n C hd hK hJ h
  | astore_n i =>
    have hok : (decide (decode cc pc = .ok (.astore_n i, len)) && (decide (len = 1))) = true := hok
    simp only [Bool.and_eq_true, decide_eq_true_eq] at hok
    obtain ⟨hd, rfl⟩ := hok
    exact ma_s_astore_n C hd hK hJ h
  | iload i =>
    have hok : (decide (decode cc pc = .ok (.iload i, len)) && (decide (len = 2))) = true := hok
    simp only [Bool.and_eq_true, decide_eq_true_eq] at hok
    obtain ⟨hd, rfl⟩ := hok
    exact ma_s_iload C hd hK hJ h
  | lload i =>
    have hok : (decide (decode cc pc = .ok (.lload i, len)) && (decide (len = 2))) = true := hok
    simp only [Bool.and_eq_true, decide_eq_true_eq] at hok
    obtain ⟨hd, rfl⟩ := hok
    exact ma_s_lload C hd hK hJ h
  | aload i =>
    have hok : (decide (decode cc pc = .ok (.aload i, len)) && (decide (len = 2))) = true := hok
    simp only [Bool.and_eq_true, decide_eq_true_eq] at hok
    obtain ⟨hd, rfl⟩ := hok
    exact ma_s_aload C hd hK hJ h
  | dload i =>
    have hok : (decide (decode cc pc = .ok (.dload i, len)) && (decide (len = 2))) = true := hok
    simp only [Bool.and_eq_true, decide_eq_true_eq] at hok
    obtain ⟨hd, rfl⟩ := hok
    exact ma_s_dload C hd hK hJ h
  | istore i =>
    have hok : (decide (decode cc pc = .ok (.istore i, len)) && (decide (len = 2))) = true := hok
    simp only [Bool.and_eq_true, decide_eq_true_eq] at hok
    obtain ⟨hd, rfl⟩ := hok
    exact ma_s_istore C hd hK hJ h
  | lstore i =>
    have hok : (decide (decode cc pc = .ok (.lstore i, len)) && (decide (len = 2))) = true := hok
    simp only [Bool.and_eq_true, decide_eq_true_eq] at hok
    obtain ⟨hd, rfl⟩ := hok
    exact ma_s_lstore C hd hK hJ h
  | dstore i =>
    have hok : (decide (decode cc pc = .ok (.dstore i, len)) && (decide (len = 2))) = true := hok
    simp only [Bool.and_eq_true, decide_eq_true_eq] at hok
    obtain ⟨hd, rfl⟩ := hok
    exact ma_s_dstore C hd hK hJ h
  | astore i =>
    have hok : (decide (decode cc pc = .ok (.astore i, len)) && (decide (len = 2))) = true := hok
    simp only [Bool.and_eq_true, decide_eq_true_eq] at hok
    obtain ⟨hd, rfl⟩ := hok
    exact ma_s_astore C hd hK hJ h
  | fload i =>
    have hok : (decide (decode cc pc = .ok (.fload i, len)) && (decide (len = 2))) = true := hok
    simp only [Bool.and_eq_true, decide_eq_true_eq] at hok
    obtain ⟨hd, rfl⟩ := hok
    exact ma_s_fload C hd hK hJ h
  | fstore i =>
    have hok : (decide (decode cc pc = .ok (.fstore i, len)) && (decide (len = 2))) = true := hok
    simp only [Bool.and_eq_true, decide_eq_true_eq] at hok
    obtain ⟨hd, rfl⟩ := hok
    exact ma_s_fstore C hd hK hJ h
  | iconst n =>
    have hok : (decide (decode cc pc = .ok (.iconst n, len)) && (decide (len = 1) && decide ((Int32.ofInt n).toInt = q9))) = true := hok
    simp only [Bool.and_eq_true, decide_eq_true_eq] at hok
    obtain ⟨hd, rfl, c0_⟩ := hok
    exact ma_s_iconst c0_ C hd hK hJ h
  | bipush n =>
    have hok : (decide (decode cc pc = .ok (.bipush n, len)) && (decide (len = 2) && decide ((Int8.ofInt n).toInt32.toInt = q9))) = true := hok
    simp only [Bool.and_eq_true, decide_eq_true_eq] at hok
    obtain ⟨hd, rfl, c0_⟩ := hok
    exact ma_s_bipush c0_ C hd hK hJ h
  | sipush n =>
    have hok : (decide (decode cc pc = .ok (.sipush n, len)) && (decide (len = 3) && decide ((Int16.ofInt n).toInt32.toInt = q9))) = true := hok
    simp only [Bool.and_eq_true, decide_eq_true_eq] at hok
    obtain ⟨hd, rfl, c0_⟩ := hok
    exact ma_s_sipush c0_ C hd hK hJ h
  | lconst n =>
    have hok : (decide (decode cc pc = .ok (.lconst n, len)) && (decide (len = 1) && decide ((Int64.ofNat n.val).toInt = q9))) = true := hok
    simp only [Bool.and_eq_true, decide_eq_true_eq] at hok
    obtain ⟨hd, rfl, c0_⟩ := hok
    exact ma_s_lconst c0_ C hd hK hJ h
  | dconst n =>
    have hok : (decide (decode cc pc = .ok (.dconst n, len)) && (decide (len = 1))) = true := hok
    simp only [Bool.and_eq_true, decide_eq_true_eq] at hok
    obtain ⟨hd, rfl⟩ := hok
    exact ma_s_dconst C hd hK hJ h
  | fconst n =>
    have hok : (decide (decode cc pc = .ok (.fconst n, len)) && (decide (len = 1))) = true := hok
    simp only [Bool.and_eq_true, decide_eq_true_eq] at hok
    obtain ⟨hd, rfl⟩ := hok
    exact ma_s_fconst C hd hK hJ h
  | ldc i =>
    have hok : (decide (decode cc pc = .ok (.ldc i, len)) && (decide (len = 2) && decide ((p9 = 0 ∧ (o, i, q9) ∈ ma_kI ∧ (-2147483648 ≤ q9 ∧ q9 < 2147483648)) ∨ (p9 ≠ 0 ∧ (o, i, q9) ∈ ma_kF)))) = true := hok
    simp only [Bool.and_eq_true, decide_eq_true_eq] at hok
    obtain ⟨hd, rfl, c0_⟩ := hok
    exact c0_.elim (fun z => ma_s_ldcI z C hd hK hJ h) (fun z => ma_s_ldcF z C hd hK hJ h)
  | ldc_w i =>
    have hok : (decide (decode cc pc = .ok (.ldc_w i, len)) && (decide (len = 3) && decide ((p9 = 0 ∧ (o, i, q9) ∈ ma_kI ∧ (-2147483648 ≤ q9 ∧ q9 < 2147483648)) ∨ (p9 ≠ 0 ∧ (o, i, q9) ∈ ma_kF)))) = true := hok
    simp only [Bool.and_eq_true, decide_eq_true_eq] at hok
    obtain ⟨hd, rfl, c0_⟩ := hok
    exact c0_.elim (fun z => ma_s_ldcwI z C hd hK hJ h) (fun z => ma_s_ldcwF z C hd hK hJ h)
  | ldc2_w i =>
    have hok : (decide (decode cc pc = .ok (.ldc2_w i, len)) && (decide (len = 3) && decide ((p9 = 0 ∧ (o, i, q9) ∈ ma_kL ∧ -9223372036854775808 ≤ q9 ∧ q9 < 9223372036854775808) ∨ (p9 ≠ 0 ∧ (o, i, q9) ∈ ma_kD)))) = true := hok
    simp only [Bool.and_eq_true, decide_eq_true_eq] at hok
    obtain ⟨hd, rfl, c0_⟩ := hok
    exact c0_.elim (fun z => ma_s_ldc2L z C hd hK hJ h) (fun z => ma_s_ldc2D z C hd hK hJ h)
  | iadd =>
    have hok : (decide (decode cc pc = .ok (.iadd, len)) && (decide (len = 1))) = true := hok
    simp only [Bool.and_eq_true, decide_eq_true_eq] at hok
    obtain ⟨hd, rfl⟩ := hok
    exact ma_s_iadd C hd hK hJ h
  | isub =>
    have hok : (decide (decode cc pc = .ok (.isub, len)) && (decide (len = 1))) = true := hok
    simp only [Bool.and_eq_true, decide_eq_true_eq] at hok
    obtain ⟨hd, rfl⟩ := hok
    exact ma_s_isub C hd hK hJ h
  | imul =>
    have hok : (decide (decode cc pc = .ok (.imul, len)) && (decide (len = 1))) = true := hok
    simp only [Bool.and_eq_true, decide_eq_true_eq] at hok
    obtain ⟨hd, rfl⟩ := hok
    exact ma_s_imul C hd hK hJ h
  | idiv =>
    have hok : (decide (decode cc pc = .ok (.idiv, len)) && (decide (len = 1))) = true := hok
    simp only [Bool.and_eq_true, decide_eq_true_eq] at hok
    obtain ⟨hd, rfl⟩ := hok
    exact ma_s_idiv C hd hK hJ h
  | irem =>
    have hok : (decide (decode cc pc = .ok (.irem, len)) && (decide (len = 1))) = true := hok
    simp only [Bool.and_eq_true, decide_eq_true_eq] at hok
    obtain ⟨hd, rfl⟩ := hok
    exact ma_s_irem C hd hK hJ h
  | iand =>
    have hok : (decide (decode cc pc = .ok (.iand, len)) && (decide (len = 1))) = true := hok
    simp only [Bool.and_eq_true, decide_eq_true_eq] at hok
    obtain ⟨hd, rfl⟩ := hok
    exact ma_s_iand C hd hK hJ h
  | ior =>
    have hok : (decide (decode cc pc = .ok (.ior, len)) && (decide (len = 1))) = true := hok
    simp only [Bool.and_eq_true, decide_eq_true_eq] at hok
    obtain ⟨hd, rfl⟩ := hok
    exact ma_s_ior C hd hK hJ h
  | ixor =>
    have hok : (decide (decode cc pc = .ok (.ixor, len)) && (decide (len = 1))) = true := hok
    simp only [Bool.and_eq_true, decide_eq_true_eq] at hok
    obtain ⟨hd, rfl⟩ := hok
    exact ma_s_ixor C hd hK hJ h
  | ishl =>
    have hok : (decide (decode cc pc = .ok (.ishl, len)) && (decide (len = 1))) = true := hok
    simp only [Bool.and_eq_true, decide_eq_true_eq] at hok
    obtain ⟨hd, rfl⟩ := hok
    exact ma_s_ishl C hd hK hJ h
  | ishr =>
    have hok : (decide (decode cc pc = .ok (.ishr, len)) && (decide (len = 1))) = true := hok
    simp only [Bool.and_eq_true, decide_eq_true_eq] at hok
    obtain ⟨hd, rfl⟩ := hok
    exact ma_s_ishr C hd hK hJ h
  | iushr =>
    have hok : (decide (decode cc pc = .ok (.iushr, len)) && (decide (len = 1))) = true := hok
    simp only [Bool.and_eq_true, decide_eq_true_eq] at hok
    obtain ⟨hd, rfl⟩ := hok
    exact ma_s_iushr C hd hK hJ h
  | ladd =>
    have hok : (decide (decode cc pc = .ok (.ladd, len)) && (decide (len = 1))) = true := hok
    simp only [Bool.and_eq_true, decide_eq_true_eq] at hok
    obtain ⟨hd, rfl⟩ := hok
    exact ma_s_ladd C hd hK hJ h
  | lsub =>
    have hok : (decide (decode cc pc = .ok (.lsub, len)) && (decide (len = 1))) = true := hok
    simp only [Bool.and_eq_true, decide_eq_true_eq] at hok
    obtain ⟨hd, rfl⟩ := hok
    exact ma_s_lsub C hd hK hJ h
  | lmul =>
    have hok : (decide (decode cc pc = .ok (.lmul, len)) && (decide (len = 1))) = true := hok
    simp only [Bool.and_eq_true, decide_eq_true_eq] at hok
    obtain ⟨hd, rfl⟩ := hok
    exact ma_s_lmul C hd hK hJ h
  | ldiv =>
    have hok : (decide (decode cc pc = .ok (.ldiv, len)) && (decide (len = 1))) = true := hok
    simp only [Bool.and_eq_true, decide_eq_true_eq] at hok
    obtain ⟨hd, rfl⟩ := hok
    exact ma_s_ldiv C hd hK hJ h
  | lrem =>
    have hok : (decide (decode cc pc = .ok (.lrem, len)) && (decide (len = 1))) = true := hok
    simp only [Bool.and_eq_true, decide_eq_true_eq] at hok
    obtain ⟨hd, rfl⟩ := hok
    exact ma_s_lrem C hd hK hJ h
  | land =>
    have hok : (decide (decode cc pc = .ok (.land, len)) && (decide (len = 1))) = true := hok
    simp only [Bool.and_eq_true, decide_eq_true_eq] at hok
    obtain ⟨hd, rfl⟩ := hok
    exact ma_s_land C hd hK hJ h
  | lor =>
    have hok : (decide (decode cc pc = .ok (.lor, len)) && (decide (len = 1))) = true := hok
    simp only [Bool.and_eq_true, decide_eq_true_eq] at hok
    obtain ⟨hd, rfl⟩ := hok
    exact ma_s_lor C hd hK hJ h
  | lshl =>
    have hok : (decide (decode cc pc = .ok (.lshl, len)) && (decide (len = 1))) = true := hok
    simp only [Bool.and_eq_true, decide_eq_true_eq] at hok
    obtain ⟨hd, rfl⟩ := hok
    exact ma_s_lshl C hd hK hJ h
  | lshr =>
    have hok : (decide (decode cc pc = .ok (.lshr, len)) && (decide (len = 1))) = true := hok
    simp only [Bool.and_eq_true, decide_eq_true_eq] at hok
    obtain ⟨hd, rfl⟩ := hok
    exact ma_s_lshr C hd hK hJ h
  | lushr =>
    have hok : (decide (decode cc pc = .ok (.lushr, len)) && (decide (len = 1))) = true := hok
    simp only [Bool.and_eq_true, decide_eq_true_eq] at hok
    obtain ⟨hd, rfl⟩ := hok
    exact ma_s_lushr C hd hK hJ h
  | i2l =>
    have hok : (decide (decode cc pc = .ok (.i2l, len)) && (decide (len = 1))) = true := hok
    simp only [Bool.and_eq_true, decide_eq_true_eq] at hok
    obtain ⟨hd, rfl⟩ := hok
    exact ma_s_i2l C hd hK hJ h
  | l2i =>
    have hok : (decide (decode cc pc = .ok (.l2i, len)) && (decide (len = 1))) = true := hok
    simp only [Bool.and_eq_true, decide_eq_true_eq] at hok
    obtain ⟨hd, rfl⟩ := hok
    exact ma_s_l2i C hd hK hJ h
  | i2c =>
    have hok : (decide (decode cc pc = .ok (.i2c, len)) && (decide (len = 1))) = true := hok
    simp only [Bool.and_eq_true, decide_eq_true_eq] at hok
    obtain ⟨hd, rfl⟩ := hok
    exact ma_s_i2c C hd hK hJ h
  | i2d =>
    have hok : (decide (decode cc pc = .ok (.i2d, len)) && (decide (len = 1))) = true := hok
    simp only [Bool.and_eq_true, decide_eq_true_eq] at hok
    obtain ⟨hd, rfl⟩ := hok
    exact ma_s_i2d C hd hK hJ h
  | i2f =>
    have hok : (decide (decode cc pc = .ok (.i2f, len)) && (decide (len = 1))) = true := hok
    simp only [Bool.and_eq_true, decide_eq_true_eq] at hok
    obtain ⟨hd, rfl⟩ := hok
    exact ma_s_i2f C hd hK hJ h
  | f2d =>
    have hok : (decide (decode cc pc = .ok (.f2d, len)) && (decide (len = 1))) = true := hok
    simp only [Bool.and_eq_true, decide_eq_true_eq] at hok
    obtain ⟨hd, rfl⟩ := hok
    exact ma_s_f2d C hd hK hJ h
  | ddiv =>
    have hok : (decide (decode cc pc = .ok (.ddiv, len)) && (decide (len = 1))) = true := hok
    simp only [Bool.and_eq_true, decide_eq_true_eq] at hok
    obtain ⟨hd, rfl⟩ := hok
    exact ma_s_ddiv C hd hK hJ h
  | fdiv =>
    have hok : (decide (decode cc pc = .ok (.fdiv, len)) && (decide (len = 1))) = true := hok
    simp only [Bool.and_eq_true, decide_eq_true_eq] at hok
    obtain ⟨hd, rfl⟩ := hok
    exact ma_s_fdiv C hd hK hJ h
  | lcmp =>
    have hok : (decide (decode cc pc = .ok (.lcmp, len)) && (decide (len = 1))) = true := hok
    simp only [Bool.and_eq_true, decide_eq_true_eq] at hok
    obtain ⟨hd, rfl⟩ := hok
    exact ma_s_lcmp C hd hK hJ h
  | dup =>
    have hok : (decide (decode cc pc = .ok (.dup, len)) && (decide (len = 1))) = true := hok
    simp only [Bool.and_eq_true, decide_eq_true_eq] at hok
    obtain ⟨hd, rfl⟩ := hok
    exact ma_s_dup C hd hK hJ h
  | pop =>
    have hok : (decide (decode cc pc = .ok (.pop, len)) && (decide (len = 1))) = true := hok
    simp only [Bool.and_eq_true, decide_eq_true_eq] at hok
    obtain ⟨hd, rfl⟩ := hok
    exact ma_s_pop C hd hK hJ h
  | dup_x1 =>
    have hok : (decide (decode cc pc = .ok (.dup_x1, len)) && (decide (len = 1))) = true := hok
    simp only [Bool.and_eq_true, decide_eq_true_eq] at hok
    obtain ⟨hd, rfl⟩ := hok
    exact ma_s_dup_x1 C hd hK hJ h
  | dup2 =>
    have hok : (decide (decode cc pc = .ok (.dup2, len)) && (decide (len = 1))) = true := hok
    simp only [Bool.and_eq_true, decide_eq_true_eq] at hok
    obtain ⟨hd, rfl⟩ := hok
    exact ma_s_dup2 C hd hK hJ h
  | laload =>
    have hok : (decide (decode cc pc = .ok (.laload, len)) && (decide (len = 1))) = true := hok
    simp only [Bool.and_eq_true, decide_eq_true_eq] at hok
    obtain ⟨hd, rfl⟩ := hok
    exact ma_s_laload C hd hK hJ h
  | baload =>
    have hok : (decide (decode cc pc = .ok (.baload, len)) && (decide (len = 1))) = true := hok
    simp only [Bool.and_eq_true, decide_eq_true_eq] at hok
    obtain ⟨hd, rfl⟩ := hok
    exact ma_s_baload C hd hK hJ h
  | caload =>
    have hok : (decide (decode cc pc = .ok (.caload, len)) && (decide (len = 1))) = true := hok
    simp only [Bool.and_eq_true, decide_eq_true_eq] at hok
    obtain ⟨hd, rfl⟩ := hok
    exact ma_s_caload C hd hK hJ h
  | aaload =>
    have hok : (decide (decode cc pc = .ok (.aaload, len)) && (decide (len = 1))) = true := hok
    simp only [Bool.and_eq_true, decide_eq_true_eq] at hok
    obtain ⟨hd, rfl⟩ := hok
    exact ma_s_aaload C hd hK hJ h
  | iastore =>
    have hok : (decide (decode cc pc = .ok (.iastore, len)) && (decide (len = 1))) = true := hok
    simp only [Bool.and_eq_true, decide_eq_true_eq] at hok
    obtain ⟨hd, rfl⟩ := hok
    exact ma_s_iastore C hd hK hJ h
  | lastore =>
    have hok : (decide (decode cc pc = .ok (.lastore, len)) && (decide (len = 1))) = true := hok
    simp only [Bool.and_eq_true, decide_eq_true_eq] at hok
    obtain ⟨hd, rfl⟩ := hok
    exact ma_s_lastore C hd hK hJ h
  | bastore =>
    have hok : (decide (decode cc pc = .ok (.bastore, len)) && (decide (len = 1))) = true := hok
    simp only [Bool.and_eq_true, decide_eq_true_eq] at hok
    obtain ⟨hd, rfl⟩ := hok
    exact ma_s_bastore C hd hK hJ h
  | castore =>
    have hok : (decide (decode cc pc = .ok (.castore, len)) && (decide (len = 1))) = true := hok
    simp only [Bool.and_eq_true, decide_eq_true_eq] at hok
    obtain ⟨hd, rfl⟩ := hok
    exact ma_s_castore C hd hK hJ h
  | iaload =>
    have hok : (decide (decode cc pc = .ok (.iaload, len)) && (decide (len = 1))) = true := hok
    simp only [Bool.and_eq_true, decide_eq_true_eq] at hok
    obtain ⟨hd, rfl⟩ := hok
    exact ma_s_iaload hLS C hd hK hJ h
  | arraylength =>
    have hok : (decide (decode cc pc = .ok (.arraylength, len)) && (decide (len = 1))) = true := hok
    simp only [Bool.and_eq_true, decide_eq_true_eq] at hok
    obtain ⟨hd, rfl⟩ := hok
    exact ma_s_arraylength hLS C hd hK hJ h
  | dcmp op =>
    have hok : (decide (decode cc pc = .ok (.dcmp op, len)) && (decide (len = 1))) = true := hok
    simp only [Bool.and_eq_true, decide_eq_true_eq] at hok
    obtain ⟨hd, rfl⟩ := hok
    exact ma_s_dcmp C hd hK hJ h
  | fcmp op =>
    have hok : (decide (decode cc pc = .ok (.fcmp op, len)) && (decide (len = 1))) = true := hok
    simp only [Bool.and_eq_true, decide_eq_true_eq] at hok
    obtain ⟨hd, rfl⟩ := hok
    exact ma_s_fcmp C hd hK hJ h
  | iinc i n9 =>
    have hok : (decide (decode cc pc = .ok (.iinc i n9, len)) && (decide (len = 3))) = true := hok
    simp only [Bool.and_eq_true, decide_eq_true_eq] at hok
    obtain ⟨hd, rfl⟩ := hok
    exact ma_s_iinc C hd hK hJ h
  | goto off =>
    have hok : (decide (decode cc pc = .ok (.goto off, len)) && (decide (len = 3) && decide (0 ≤ (pc : Int) + off))) = true := hok
    simp only [Bool.and_eq_true, decide_eq_true_eq] at hok
    obtain ⟨hd, rfl, c0_⟩ := hok
    exact ma_s_goto c0_ C hd hK hJ h
  | ifCond cd off =>
    have hok : (decide (decode cc pc = .ok (.ifCond cd off, len)) && (decide (len = 3) && decide (0 ≤ (pc : Int) + off))) = true := hok
    simp only [Bool.and_eq_true, decide_eq_true_eq] at hok
    obtain ⟨hd, rfl, c0_⟩ := hok
    exact ma_s_ifCond c0_ C hd hK hJ h
  | if_icmp cd off =>
    have hok : (decide (decode cc pc = .ok (.if_icmp cd off, len)) && (decide (len = 3) && decide (0 ≤ (pc : Int) + off))) = true := hok
    simp only [Bool.and_eq_true, decide_eq_true_eq] at hok
    obtain ⟨hd, rfl, c0_⟩ := hok
    exact ma_s_if_icmp c0_ C hd hK hJ h
  | tableswitch d lo hi offs =>
    have hok : (decide (decode cc pc = .ok (.tableswitch d lo hi offs, len)) && (decide (0 ≤ (pc : Int) + d ∧ ∀ off ∈ offs, 0 ≤ (pc : Int) + off))) = true := hok
    simp only [Bool.and_eq_true, decide_eq_true_eq] at hok
    obtain ⟨hd, c0_⟩ := hok
    exact ma_s_tableswitch c0_ C hd hK hJ h
  | getfield i =>
    have hok : (decide (decode cc pc = .ok (.getfield i, len)) && (decide (len = 3) && decide ((o, i, p9, q9.toNat) ∈ ma_fl ∧ 0 ≤ q9 ∧ p9 < 11 ∧ q9.toNat < ma_N p9))) = true := hok
    simp only [Bool.and_eq_true, decide_eq_true_eq] at hok
    obtain ⟨hd, rfl, c0_⟩ := hok
    exact ma_s_getfield c0_ C hd hK hJ h
  | putfield i =>
    have hok : (decide (decode cc pc = .ok (.putfield i, len)) && (decide (len = 3) && decide ((o, i, p9, q9.toNat) ∈ ma_fl ∧ 0 ≤ q9 ∧ p9 < 11 ∧ q9.toNat < ma_N p9 ∧ (ma_T p9 q9.toNat).2.2.2 = false))) = true := hok
    simp only [Bool.and_eq_true, decide_eq_true_eq] at hok
    obtain ⟨hd, rfl, c0_⟩ := hok
    exact ma_s_putfield c0_ C hd hK hJ h
  | getstatic i =>
    have hok : (decide (decode cc pc = .ok (.getstatic i, len)) && (decide (len = 3) && decide ((o, i) ∈ ma_sl))) = true := hok
    simp only [Bool.and_eq_true, decide_eq_true_eq] at hok
    obtain ⟨hd, rfl, c0_⟩ := hok
    exact ma_s_getstatic c0_ C hd hK hJ h
  | invokevirtual i =>
    have hok : (decide (decode cc pc = .ok (.invokevirtual i, len)) && (decide (len = 3) && decide ((o, i, p9) ∈ ma_ml ∧ p9 < ma_nM ∧ ma_stat p9 = false ∧ (ma_hc p9).isEmpty = true ∧ q9.toNat < 11 ∧ (ma_y p9).cls = ma_C q9.toNat))) = true := hok
    simp only [Bool.and_eq_true, decide_eq_true_eq] at hok
    obtain ⟨hd, rfl, c0_⟩ := hok
    have h : (match ma_pop (ma_na p9) st [] with
      | some (as, .inr (.inr (.inl a)) :: rest) => (ma_ck a.1).1 = 10 + q9.toNat ∧ ma_call O E pc ls p9 (ma_Rf a.1 a.2 :: as) rest k μ K J D
      | _ => False) := h
    generalize hp : ma_pop (ma_na p9) st [] = z at h
    match z, hp, h with
    | some (as, .inr (.inr (.inl a)) :: rest), hp, h => exact ma_s_virt C hLn c0_ hd hR hRo hO hX hE hK hJ hp h.1 h.2
  | invokestatic i =>
    have hok : (decide (decode cc pc = .ok (.invokestatic i, len)) && (decide (len = 3) && decide ((p9 = 10002 ∧ (o, i) ∈ ma_mx) ∨ (p9 = 10003 ∧ (o, i) ∈ ma_mn) ∨ (p9 = 10004 ∧ (o, i) ∈ ma_md) ∨ (p9 = 10000 ∧ (o, i) ∈ ma_cp) ∨ ((o, i, p9) ∈ ma_ml ∧ p9 < ma_nM ∧ ma_stat p9 = true) ∨ ((o, i, p9) ∈ ma_mN ∧ p9 < ma_nM ∧ ma_stat p9 = true ∧ ma_wc p9 = 0 ∧ ma_rk p9 = 2 ∧ (ma_hc p9).isEmpty = true)))) = true := hok
    simp only [Bool.and_eq_true, decide_eq_true_eq] at hok
    obtain ⟨hd, rfl, c0_⟩ := hok
    rcases c0_ with ⟨rfl, c1_⟩ | ⟨rfl, c1_⟩ | ⟨rfl, c1_⟩ | ⟨rfl, c1_⟩ | c1_ | c1_
    · exact ma_s_mmax c1_ hRo hLn C hd hK h
    · exact ma_s_mmin c1_ hRo hLn C hd hK h
    · exact ma_s_maxD c1_ hRo hLn C hd hK h
    · obtain ⟨n, dp, b, sp, a, rest, rfl, h1, h2, h3, h4, h5, h6, h7, h8, h9, h10⟩ := ma_cpy_e (st := st) (F := fun n dp b sp a rest => rest.length ≤ 4 ∧ (ma_ck a.1).1 = 0 ∧ (ma_ck b.1).1 = 0 ∧ a.1 ≠ b.1 ∧ 0 ≤ n ∧ 0 ≤ sp ∧ 0 ≤ dp ∧ sp + n ≤ (ma_ck a.1).2.1 ∧ dp + n ≤ (ma_ck b.1).2.1 ∧ K ls rest k (ma_cpy μ a.1 a.2 sp b.1 b.2 dp n)) h
      exact ma_s_acopy c1_ hRo hLn C hd hK h1 h2 h3 h4 h5 h6 h7 h8 h9 h10
    · have hp4 : p9 < 155 := c1_.2.1
      have h : (match ma_pop (ma_na p9) st [] with
        | some (as, rest) => ma_call O E pc ls p9 as rest k μ K J D
        | _ => False) := by
        have h : (if p9 = 10002 then _ else if p9 = 10003 then _ else if p9 = 10004 then _ else if p9 = 10000 then _ else _) := h
        rwa [if_neg (by omega), if_neg (by omega), if_neg (by omega), if_neg (by omega)] at h
      generalize hp : ma_pop (ma_na p9) st [] = z at h
      match z, hp, h with
      | some (as, rest), hp, h => exact ma_s_stat C hLn c1_ hd hR hRo hO hX hE hK hJ hp h
    · have hp4 : p9 < 155 := c1_.2.1
      have h : (match ma_pop (ma_na p9) st [] with
        | some (as, rest) => ma_call O E pc ls p9 as rest k μ K J D
        | _ => False) := by
        have h : (if p9 = 10002 then _ else if p9 = 10003 then _ else if p9 = 10004 then _ else if p9 = 10000 then _ else _) := h
        rwa [if_neg (by omega), if_neg (by omega), if_neg (by omega), if_neg (by omega)] at h
      generalize hp : ma_pop (ma_na p9) st [] = z at h
      match z, hp, h with
      | some (as, rest), hp, h => exact ma_s_nest C hLn c1_ hd hR hRo hO hK hp h
  | ireturn =>
    have hok : (decide (decode cc pc = .ok (.ireturn, len)) && (decide (len = 1))) = true := hok
    simp only [Bool.and_eq_true, decide_eq_true_eq] at hok
    obtain ⟨hd, rfl⟩ := hok
    obtain ⟨v, st, rfl, h1⟩ := ma_pI_e h
    obtain ⟨rfl, h2, h3⟩ := ma_p0_e h1
    intro H locs als vs hH hS hL hR
    obtain ⟨w9, vs, rfl, hw9, hR1⟩ := ma_RS_cons hR
    cases ma_RS_nil hR1
    obtain ⟨x, rfl, rfl⟩ := hw9
    exact (hE k μ H locs hH hS).2.2.1 pc x als hd h2 h3
  | lreturn =>
    have hok : (decide (decode cc pc = .ok (.lreturn, len)) && (decide (len = 1))) = true := hok
    simp only [Bool.and_eq_true, decide_eq_true_eq] at hok
    obtain ⟨hd, rfl⟩ := hok
    obtain ⟨v, st, rfl, h1⟩ := ma_pL_e h
    obtain ⟨rfl, h2, h3⟩ := ma_p0_e h1
    intro H locs als vs hH hS hL hR
    obtain ⟨w9, vs, rfl, hw9, hR1⟩ := ma_RS_cons hR
    cases ma_RS_nil hR1
    obtain ⟨x, rfl, rfl⟩ := hw9
    exact (hE k μ H locs hH hS).2.2.2.1 pc x als hd h2 h3
  | freturn =>
    have hok : (decide (decode cc pc = .ok (.freturn, len)) && (decide (len = 1))) = true := hok
    simp only [Bool.and_eq_true, decide_eq_true_eq] at hok
    obtain ⟨hd, rfl⟩ := hok
    obtain ⟨v, st, rfl, h1⟩ := ma_pF_e h
    obtain ⟨rfl, h2, h3⟩ := ma_p0_e h1
    intro H locs als vs hH hS hL hR
    obtain ⟨w9, vs, rfl, hw9, hR1⟩ := ma_RS_cons hR
    cases ma_RS_nil hR1
    cases hw9
    exact (hE k μ H locs hH hS).2.2.2.2.1 pc v als hd h2 h3
  | dreturn =>
    have hok : (decide (decode cc pc = .ok (.dreturn, len)) && (decide (len = 1))) = true := hok
    simp only [Bool.and_eq_true, decide_eq_true_eq] at hok
    obtain ⟨hd, rfl⟩ := hok
    obtain ⟨v, st, rfl, h1⟩ := ma_pD_e h
    obtain ⟨rfl, h2, h3⟩ := ma_p0_e h1
    intro H locs als vs hH hS hL hR
    obtain ⟨w9, vs, rfl, hw9, hR1⟩ := ma_RS_cons hR
    cases ma_RS_nil hR1
    cases hw9
    exact (hE k μ H locs hH hS).2.2.2.2.2.1 pc v als hd h2 h3
  | return_ =>
    have hok : (decide (decode cc pc = .ok (.return_, len)) && (decide (len = 1))) = true := hok
    simp only [Bool.and_eq_true, decide_eq_true_eq] at hok
    obtain ⟨hd, rfl⟩ := hok
    obtain ⟨rfl, h1, h2⟩ := ma_p0_e h
    intro H locs als vs hH hS hL hR
    cases ma_RS_nil hR
    exact (hE k μ H locs hH hS).2.2.2.2.2.2 pc als hd h1 h2
  | athrow =>
    have hok : (decide (len = 8 ∧ o = 10 ∧ ma_thr[q9.toNat]? = some (10, (ma_thr.getD q9.toNat (0, 0, 0, 0)).2.1, (ma_thr.getD q9.toNat (0, 0, 0, 0)).2.2.1, p9)) && (decide (decode cc pc = .ok (.new (ma_thr.getD q9.toNat (0, 0, 0, 0)).2.1, 3)) && (decide (decode cc (pc + 3) = .ok (.dup, 1)) && (decide (decode cc (pc + 4) = .ok (.invokespecial (ma_thr.getD q9.toNat (0, 0, 0, 0)).2.2.1, 3)) && decide (decode cc (pc + 7) = .ok (.athrow, 1)))))) = true := hok
    simp only [Bool.and_eq_true, decide_eq_true_eq] at hok
    obtain ⟨⟨rfl, c1_, c0_⟩, d0, d3, d4, d7⟩ := hok
    obtain ⟨rfl, h1, h2, h3⟩ := ma_p0_e h
    intro H locs als vs hH hS hL hR
    cases ma_RS_nil hR
    exact (hE k μ H locs hH hS).2.1 pc p9 q9.toNat als c1_ hL.2.1 c0_ d0 d3 d4 d7 h1 h2 h3
  | daload =>
    have hok : (decide (decode cc pc = .ok (.daload, len)) && false) = true := hok
    rw [Bool.and_false] at hok
    cases hok
  | dastore =>
    have hok : (decide (decode cc pc = .ok (.dastore, len)) && false) = true := hok
    rw [Bool.and_false] at hok
    cases hok
  | _ => exact h.elim
end ALL
