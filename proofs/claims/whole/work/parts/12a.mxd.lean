/-! Math.max of two doubles: the machine's own row, by its steps -/
theorem md_dec (n : Nat) : FP.Core.decode FP.Core.b64 n = if n / 4503599627370496 % 2048 = 2047 then (if n % 4503599627370496 = 0 then .inf (n / 4503599627370496 / 2048 % 2 == 1) else .nan) else if n / 4503599627370496 % 2048 = 0 then .fin (n / 4503599627370496 / 2048 % 2 == 1) (n % 4503599627370496) (-1074) else .fin (n / 4503599627370496 / 2048 % 2 == 1) (4503599627370496 + n % 4503599627370496) (-1074 + (((n / 4503599627370496 % 2048 : Nat) : Int) - 1)) := rfl
theorem md_ceq {a b : Int} (h : compare a b = .eq) : a = b := by
  have h : compareOfLessAndEq a b = .eq := h
  unfold compareOfLessAndEq at h
  by_cases c : a < b
  · rw [if_pos c] at h; cases h
  · rw [if_neg c] at h
    by_cases d : a = b
    · exact d
    · rw [if_neg d] at h; cases h
/-- a finite datum of 64 bits -/
def md_fin (n : Nat) (s : Bool) (c : Nat) (q : Int) : Prop := s = (n / 4503599627370496 / 2048 % 2 == 1) ∧ n / 4503599627370496 % 2048 < 2047 ∧ ((n / 4503599627370496 % 2048 = 0 ∧ c = n % 4503599627370496 ∧ q = -1074) ∨ (1 ≤ n / 4503599627370496 % 2048 ∧ c = 4503599627370496 + n % 4503599627370496 ∧ q = -1074 + (((n / 4503599627370496 % 2048 : Nat) : Int) - 1)))
theorem md_cs (n : Nat) : (FP.Core.decode FP.Core.b64 n = .nan) ∨ (∃ s, FP.Core.decode FP.Core.b64 n = .inf s ∧ s = (n / 4503599627370496 / 2048 % 2 == 1) ∧ n / 4503599627370496 % 2048 = 2047 ∧ n % 4503599627370496 = 0) ∨ ∃ s c q, FP.Core.decode FP.Core.b64 n = .fin s c q ∧ md_fin n s c q := by
  rw [md_dec]
  by_cases a : n / 4503599627370496 % 2048 = 2047
  · rw [if_pos a]
    by_cases b : n % 4503599627370496 = 0
    · rw [if_pos b]; exact .inr (.inl ⟨_, rfl, rfl, a, b⟩)
    · rw [if_neg b]; exact .inl rfl
  · rw [if_neg a]
    by_cases b : n / 4503599627370496 % 2048 = 0
    · rw [if_pos b]; exact .inr (.inr ⟨_, _, _, rfl, rfl, by omega, .inl ⟨b, rfl, rfl⟩⟩)
    · rw [if_neg b]; exact .inr (.inr ⟨_, _, _, rfl, rfl, by omega, .inr ⟨by omega, rfl, rfl⟩⟩)
theorem md_pow {c d : Nat} {q r : Int} {n m : Nat} {s t : Bool} (hn : md_fin n s c q) (hm : md_fin m t d r) (l : q ≤ r) (h : c * 2 ^ (q - min q r).toNat = d * 2 ^ (r - min q r).toNat) : q = r ∧ c = d := by
  rw [Int.min_eq_left l, Int.sub_self] at h
  have h : c * 1 = d * 2 ^ (r - q).toNat := h
  by_cases e : q = r
  · rw [e, Int.sub_self] at h
    have h : c * 1 = d * 1 := h
    exact ⟨e, by omega⟩
  · exfalso
    obtain ⟨k, hk⟩ : ∃ k : Nat, (r - q).toNat = k + 1 := ⟨(r - q).toNat - 1, by omega⟩
    rw [hk, Nat.pow_succ] at h
    have p1 : 1 ≤ 2 ^ k := Nat.one_le_two_pow
    have d1 : 4503599627370496 ≤ d := by
      have := hm.2.2
      have := hn.2.2
      omega
    have m1 : d * 2 ≤ d * (2 ^ k * 2) := Nat.mul_le_mul_left d (by omega)
    have := hn.2.2
    omega
theorem md_same {n m : Nat} {s t : Bool} {c d : Nat} {q r : Int} (n1 : n < 2 ^ 64) (m1 : m < 2 ^ 64) (hn : md_fin n s c q) (hm : md_fin m t d r) (st : s = t) (qr : q = r) (cd : c = d) : n = m := by
  obtain ⟨a1, a2, a3⟩ := hn
  obtain ⟨b1, b2, b3⟩ := hm
  have e0 : (n / 4503599627370496 / 2048 % 2 == 1) = (m / 4503599627370496 / 2048 % 2 == 1) := a1.symm.trans (st.trans b1)
  have e : (n / 4503599627370496 / 2048 % 2 = 1) ↔ (m / 4503599627370496 / 2048 % 2 = 1) := ⟨fun w => beq_iff_eq.mp (e0 ▸ beq_iff_eq.mpr w), fun w => beq_iff_eq.mp (e0.symm ▸ beq_iff_eq.mpr w)⟩
  omega
theorem md_sg {s t : Bool} {a b : Nat} (h : FP.Core.signed s a = FP.Core.signed t b) (a0 : a ≠ 0) : s = t ∧ a = b := by
  unfold FP.Core.signed at h
  cases s <;> cases t <;> simp at h <;> first | exact ⟨rfl, by omega⟩ | omega
theorem md_eq {x y : UInt64} (h : FP.dcmp x y = some .eq) (hx : Op.cmpValue (FP.dcmp x 0) .l ≠ 0) : x = y := by
  apply UInt64.toNat_inj.mp
  have n1 := x.toNat_lt
  have m1 := y.toNat_lt
  have h : FP.Core.order (FP.Core.decode FP.Core.b64 x.toNat) (FP.Core.decode FP.Core.b64 y.toNat) = some .eq := h
  have hx : Op.cmpValue (FP.Core.order (FP.Core.decode FP.Core.b64 x.toNat) (.fin false 0 (-1074))) .l ≠ 0 := hx
  generalize x.toNat = n at h hx n1 ⊢
  generalize y.toNat = m at h m1 ⊢
  rcases md_cs n with z | ⟨s, z, z1, z2, z3⟩ | ⟨s, c, q, z, zf⟩
  · rw [z] at h; cases h
  · rcases md_cs m with w | ⟨t, w, w1, w2, w3⟩ | ⟨t, d, r, w, wf⟩
    · rw [z, w] at h; cases h
    · rw [z, w] at h
      have h := md_ceq (Option.some.inj h)
      have st := (md_sg h (by decide)).1
      have e0 : (n / 4503599627370496 / 2048 % 2 == 1) = (m / 4503599627370496 / 2048 % 2 == 1) := z1.symm.trans (st.trans w1)
      have e : (n / 4503599627370496 / 2048 % 2 = 1) ↔ (m / 4503599627370496 / 2048 % 2 = 1) := ⟨fun w => beq_iff_eq.mp (e0 ▸ beq_iff_eq.mpr w), fun w => beq_iff_eq.mp (e0.symm ▸ beq_iff_eq.mpr w)⟩
      omega
    · rw [z, w] at h
      have h := md_ceq (Option.some.inj h)
      exfalso; revert h; cases s <;> decide
  · have c0 : c ≠ 0 := by
      intro c0
      rw [z, c0] at hx
      apply hx
      show Op.cmpValue (some (compare (FP.Core.signed s (FP.Core.inUnits 0 q (min q (-1074)))) (FP.Core.signed false (FP.Core.inUnits 0 (-1074) (min q (-1074)))))) .l = 0
      unfold FP.Core.inUnits
      rw [Nat.zero_mul, Nat.zero_mul]
      cases s <;> decide
    rcases md_cs m with w | ⟨t, w, w1, w2, w3⟩ | ⟨t, d, r, w, wf⟩
    · rw [z, w] at h; cases h
    · rw [z, w] at h
      have h := md_ceq (Option.some.inj h)
      exfalso; revert h; cases t <;> decide
    · rw [z, w] at h
      have h := md_ceq (Option.some.inj h)
      have k := md_sg h (by
        unfold FP.Core.inUnits
        exact Nat.mul_ne_zero c0 (by have := Nat.one_le_two_pow (n := (q - min q r).toNat); omega))
      have u : c * 2 ^ (q - min q r).toNat = d * 2 ^ (r - min q r).toNat := k.2
      by_cases l : q ≤ r
      · have v := md_pow zf wf l u
        exact md_same n1 m1 zf wf k.1 v.1 v.2
      · have d0 : d ≠ 0 := by
          intro d0
          rw [d0, Nat.zero_mul] at u
          exact Nat.mul_ne_zero c0 (by have := Nat.one_le_two_pow (n := (q - min q r).toNat); omega) u
        have v := md_pow wf zf (by omega) (by rw [Int.min_comm]; exact u.symm)
        exact md_same n1 m1 zf wf k.1 v.1.symm v.2.symm
theorem md_self {x : UInt64} (h : Op.cmpValue (FP.dcmp x x) .l = 0) : FP.dIsNaN x = false ∧ FP.dcmp x x ≠ none := by
  have hn : FP.dcmp x x ≠ none := by intro z; rw [z] at h; revert h; decide
  refine ⟨?_, hn⟩
  have hn : FP.Core.order (FP.Core.decode FP.Core.b64 x.toNat) (FP.Core.decode FP.Core.b64 x.toNat) ≠ none := hn
  show decide (FP.Core.decode FP.Core.b64 x.toNat = .nan) = false
  exact decide_eq_false (fun z => hn (by rw [z]; rfl))
theorem md_pick {x y : UInt64} (hx : Op.cmpValue (FP.dcmp x x) .l = 0) (hy : Op.cmpValue (FP.dcmp y y) .l = 0) (h0 : Op.cmpValue (FP.dcmp x 0) .l ≠ 0) : Native.java_lang_Math.nans.pick64 true x y = if Op.cmpValue (FP.dcmp x y) .l < 0 then y else x := by
  have nn : FP.dcmp x y ≠ none := by
    have a : FP.Core.order (FP.Core.decode FP.Core.b64 x.toNat) (FP.Core.decode FP.Core.b64 x.toNat) ≠ none := (md_self hx).2
    have b : FP.Core.order (FP.Core.decode FP.Core.b64 y.toNat) (FP.Core.decode FP.Core.b64 y.toNat) ≠ none := (md_self hy).2
    show FP.Core.order (FP.Core.decode FP.Core.b64 x.toNat) (FP.Core.decode FP.Core.b64 y.toNat) ≠ none
    generalize FP.Core.decode FP.Core.b64 x.toNat = u at a ⊢
    generalize FP.Core.decode FP.Core.b64 y.toNat = v at b ⊢
    cases u <;> cases v <;> simp [FP.Core.order] at a b ⊢
  unfold Native.java_lang_Math.nans.pick64
  cases h : FP.dcmp x y with
  | none => exact absurd h nn
  | some o =>
    cases o with
    | lt => rfl
    | gt => rfl
    | eq =>
      have e := md_eq h h0
      subst e
      dsimp only
      split <;> split <;> rfl
theorem md_nat (p : Program) : p.tables.natives = natives := by cases p <;> rfl
def md_r : NativeRow := (Native.java_lang_Math.nans.extremum "max" true "nat.java_lang_Math.max" "nat.java_lang_Math.max/float").head (by decide)
set_option maxRecDepth 100000 in
theorem md_find : NativeRow.find? natives "java/lang/Math" "max" "(DD)D" = some md_r := by rfl
theorem md_run {x y : UInt64} (hx : FP.dIsNaN x = false) (hy : FP.dIsNaN y = false) (e : Env) (s : State) : ∃ acts, (md_r.sem #[.double x, .double y]).run e s = Res.ok (some (.double (Native.java_lang_Math.nans.pick64 true x y))) s acts := by
  have : md_r.sem #[.double x, .double y] = (do mark "nat.java_lang_Math.max"; Pure.pure (some (Value.double (Native.java_lang_Math.nans.pick64 true x y)))) := by
    show (if FP.dIsNaN x = true then _ else if FP.dIsNaN y = true then _ else _) = _
    rw [if_neg (by rw [hx]; decide), if_neg (by rw [hy]; decide)]
    rfl
  rw [this]
  exact ⟨_, rfl⟩

theorem md_frames {T : State} {g0 g : JFrame} {F : Frame} {below : List Frame} (h : T.frames = .java g0 :: below) : (T.setTop g).pushFrame F = T.setFrames (F :: .java g :: below) := by
  rw [State.setTop_of_frames g h]
  show (T.setFrames (.java g :: below)).setFrames (F :: (T.setFrames (.java g :: below)).frames) = _
  rw [State.setFrames_setFrames, State.frames_setFrames _ (State.cur_lt_of_frames h)]
theorem md_step {p : Program} {e : Env} {T : State} {g0 g : JFrame} {below : List Frame} (h : T.frames = .java g0 :: below) {mk : MethodId} {k : Class} {x : Method} (hk : T.vm.classes[mk.cls]? = some k) (hkn : k.name = "java/lang/Math") (hkl : k.loader = none) (hx : k.methods[mk.idx]? = some x) (hxn : x.name = "max") (hxd : x.desc = "(DD)D") (hst : x.isStatic = true) (hpa : x.sig.parameters.length = 2) {a b : UInt64} (ha : FP.dIsNaN a = false) (hb : FP.dIsNaN b = false) {c : Code} {ig : Instr} {len : Nat} (hc : T.code? g.method = some c) (hd : decode c.code g.pc = .ok (ig, len)) {F : JFrame} (hF : F = { method := mk, pc := 0, locals := argsToLocals #[.double a, .double b] 4, stack := [], locked := none }) :
    (stepThread p.tables e (T.setFrames (.java F :: .java g :: below))).fst = T.setTop { g with pc := g.pc + len, stack := .double (Native.java_lang_Math.nans.pick64 true a b) :: g.stack } := by
  have lt := State.cur_lt_of_frames h
  have fr : ∀ fs : List Frame, (T.setFrames fs).frames = fs := fun fs => State.frames_setFrames fs lt
  have ov : overridden p.tables e (T.setFrames (.java F :: .java g :: below)) F = some md_r := by
    unfold overridden
    subst hF
    have hk' : (T.setFrames (.java { method := mk, pc := 0, locals := argsToLocals #[.double a, .double b] 4, stack := [], locked := none } :: .java g :: below)).vm.classes[mk.cls]? = some k := hk
    dsimp only
    rw [hk']
    dsimp only
    rw [hkn, hkl, hx]
    dsimp only
    rw [hxn, hxd, md_nat]
    exact md_find
  have ac : argCount (T.setFrames (.java F :: .java g :: below)) F.method = 2 := by
    unfold argCount
    subst hF
    have hk' : ∀ fs : List Frame, (T.setFrames fs).vm.classes[mk.cls]? = some k := fun _ => hk
    dsimp only
    rw [hk']
    show (match k.methods[mk.idx]? with | some x => _ | none => _) = 2
    rw [hx]
    dsimp only
    rw [hst, hpa]; rfl
  unfold stepThread
  rw [fr]
  dsimp only
  rw [ov]
  dsimp only
  rw [ac]
  have given : ∀ f : Slot → Option Value, (∀ v, f (.val v) = some v) → f .second = none → ((List.filterMap f F.locals.toList).toArray.extract 0 2) = #[.double a, .double b] := fun f f1 f2 => by
    subst hF
    show ((List.filterMap f [.val (.double a), .second, .val (.double b), .second]).toArray.extract 0 2) = _
    simp [f1, f2]
  rw [given _ (fun _ => rfl) rfl]
  obtain ⟨acts, hr⟩ := md_run ha hb e ((T.setFrames (.java F :: .java g :: below)).setFrames (.native { method := F.method, args := #[.double a, .double b], locked := F.locked } :: .java g :: below))
  rw [hr]
  show (doReturn e _ acts _).fst = _
  rw [doReturn_native (f := { method := F.method, args := #[.double a, .double b], locked := F.locked }) (below := .java g :: below) (fs := .java { g with pc := g.pc + len, stack := .double (Native.java_lang_Math.nans.pick64 true a b) :: g.stack } :: below) (by rw [State.setFrames_setFrames]; exact fr _) (by subst hF; rfl) ?_]
  · rw [State.setFrames_setFrames, State.setFrames_setFrames, State.setTop_of_frames _ h]
  · show Option.map _ (((((T.setFrames _).setFrames _).code? g.method)).bind _) = _
    have hc' : ((T.setFrames (.java F :: .java g :: below)).setFrames (.native { method := F.method, args := #[.double a, .double b], locked := F.locked } :: .java g :: below)).code? g.method = some c := hc
    rw [hc']
    show Option.map _ ((decode c.code g.pc).toOption) = _
    rw [hd]; rfl

theorem md_call {p : Program} {l : Launch} {e : Env} {R : Room} {s : State} {m : MethodId} {args : Array Value} {below : List Frame} {meth : Method} {c : Code} {H : Heap} {locs : List Loc} {cells slots : Nat} {Q : State → Prop} {pc : Nat} {ls : Array Slot} {rest : List Value} {cc bytes : ByteArray} (hexec : p.tables.exec = Jvm.exec) (hb : c.code = cc) (hml : c.maxLocals = ls.size) {own : String} {index : Nat} (hown : s.vm.findClass own = some m.cls)
    (hlink : (Cond.methodLink own index ⟨"java/lang/Math", "max", "(DD)D"⟩).before args s = true) (hstat : (Cond.static ⟨"java/lang/Math", "max", "(DD)D"⟩).before args s = true) (hinit : (Cond.initialized "java/lang/Math").before args s = true) (hcode : (Cond.code ⟨"java/lang/Math", "max", "(DD)D"⟩ bytes 4 (some .double)).before args s = true)
    (hframes : 1 ≤ R.frames) (hlocals : (rest.map fun v => v.category).sum + 15 ≤ R.locals) {x y : UInt64} (hx : Op.cmpValue (FP.dcmp x x) .l = 0) (hy : Op.cmpValue (FP.dcmp y y) .l = 0) (h0 : Op.cmpValue (FP.dcmp x 0) .l ≠ 0) (hdg : decode cc pc = .ok (.invokestatic index, 3))
    (kk : W p l e R s m args below meth c H locs cells slots Q (F0 m (pc + 3) ls (.double (if Op.cmpValue (FP.dcmp x y) .l < 0 then y else x) :: rest))) : W p l e R s m args below meth c H locs cells slots Q (F0 m pc ls (.double y :: .double x :: rest)) := by
  intro T hT X
  obtain ⟨mk, hnamed⟩ := Cond.code_named hcode
  obtain ⟨methM, cM, hmethM, hcM, -, hmlM, -, hlkM, -, hsigM⟩ := Cond.code_spec hnamed hcode
  have hstatic : methM.isStatic = true := Cond.static_spec hnamed hmethM hstat
  obtain ⟨kP, hkP, -⟩ := className_of_methodNamed hnamed
  have hinitP : kP.init = .initialized := Cond.initialized_spec (findClass_of_methodNamed hnamed) hkP hinit
  have hpar : methM.sig.parameters.length = 2 := by
    have h : parseMethodDescriptor "(DD)D" = some { parameters := [.double, .double], returnType := some .double } := by decide +kernel
    have h2 : parseMethodDescriptor "(DD)D" = some methM.sig := hsigM
    rw [h] at h2
    rw [← Option.some.inj h2]; rfl
  obtain ⟨vm₁, X₁, hstep₁⟩ := X.invokestatic hexec hown hlink hnamed hmethM hstatic hkP hinitP ⟨by decide, by decide⟩ (g := F0 m pc ls (.double y :: .double x :: rest)) rfl (argsL := [.double x, .double y]) (rest := rest) (by rw [hpar]; rfl) rfl (by rw [hb]; exact hdg)
  obtain ⟨t, a1, b1⟩ := kk (T.setVm vm₁) hT X₁
  refine ⟨t, hstep₁ t (fun acts => ?_), b1⟩
  -- what stands at the callee's start
  have hnU := X₁.named hnamed
  have cU : (Cond.code ⟨"java/lang/Math", "max", "(DD)D"⟩ bytes 4 (some .double)).before args (T.setVm vm₁) = true := word_at X₁.warmed (Or.inl (by first | rfl | simp [Cond.onTables, Cond.keeps, Cond.steady])) hcode
  have sU : (Cond.static ⟨"java/lang/Math", "max", "(DD)D"⟩).before args (T.setVm vm₁) = true := word_at X₁.warmed (Or.inl (by first | rfl | simp [Cond.onTables, Cond.keeps, Cond.steady])) hstat
  obtain ⟨mU, cdU, hmU, hcU, -, hlU, -, hkU, -, hgU⟩ := Cond.code_spec hnU cU
  have stU : mU.isStatic = true := Cond.static_spec hnU hmU sU
  obtain ⟨kU, hkcU, hknU⟩ := className_of_methodNamed hnU
  have hldU : kU.loader = none := Vm.findClass_boot (findClass_of_methodNamed hnU) hkcU
  have hnmU := name_of_methodNamed hnU hmU
  have hpU : mU.sig.parameters.length = 2 := by
    have h : parseMethodDescriptor "(DD)D" = some { parameters := [.double, .double], returnType := some .double } := by decide +kernel
    have h2 : parseMethodDescriptor "(DD)D" = some mU.sig := hgU
    rw [h] at h2
    rw [← Option.some.inj h2]; rfl
  have hmeU : kU.methods[mk.idx]? = some mU := by
    have h := hmU
    unfold Vm.method? at h
    rw [hkcU] at h
    exact h
  obtain ⟨g0, hfr⟩ := X₁.frames_eq
  rw [doInvoke_state]
  have I := (doInvoke_java (e := e) (s := (T.setVm vm₁).setTop { F0 m pc ls (.double y :: .double x :: rest) with stack := rest }) (acts := []) (args := [Value.double x, Value.double y].toArray) hmU hcU hkU (X₁.notFull (g := { F0 m pc ls (.double y :: .double x :: rest) with stack := rest }) hml.symm (vars := cdU.maxLocals) hframes (by rw [hlU]; show 2 * 0 + (rest.map fun v => v.category).sum + (4 + 11) ≤ R.locals; omega))).1
  rw [I, md_frames hfr, hlU]
  have lt := State.cur_lt_of_frames hfr
  refine Steps.head ⟨X₁.here.running, by rw [State.curStatus?_setFrames]; exact X₁.here.runnable, by rw [State.alone_setFrames]; exact X₁.here.alone⟩ ⟨[_, _], State.frames_setFrames _ lt, by simp, fun a z => by cases z⟩ ?_
  rw [md_step hfr (g := { F0 m pc ls (.double y :: .double x :: rest) with stack := rest }) (mk := mk) hkcU hknU hldU hmeU hnmU.1 hnmU.2 stU hpU (md_self hx).1 (md_self hy).1 (c := c) (by exact X₁.here.code) (by rw [hb]; exact hdg) rfl, md_pick hx hy h0]
  exact a1
