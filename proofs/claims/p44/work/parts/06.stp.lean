/-! one instruction of the small machine stands for one of the JVM -/
theorem ma_RS_cons {G : ma_G} {v : ma_V} {st : List ma_V} {vs : List Value} (h : ma_RS G (v :: st) vs) : ∃ w ws, vs = w :: ws ∧ ma_Rv G v w ∧ ma_RS G st ws := by
  cases vs with
  | nil => exact h.elim
  | cons w ws => exact ⟨w, ws, rfl, h.1, h.2⟩
theorem ma_RS_nil {G : ma_G} {vs : List Value} (h : ma_RS G [] vs) : vs = [] := by
  cases vs with
  | nil => rfl
  | cons w ws => exact h.elim
theorem ma_RS_app {G : ma_G} : ∀ {as st : List ma_V} {vs : List Value}, ma_RS G (as ++ st) vs → ∃ ws rest, vs = ws ++ rest ∧ ma_RS G as ws ∧ ma_RS G st rest
  | [], st, vs, h => ⟨[], vs, rfl, trivial, h⟩
  | a :: as, st, vs, h => by
    obtain ⟨w, ws, rfl, h1, h2⟩ := ma_RS_cons (v := a) (st := as ++ st) h
    obtain ⟨ws', rest, rfl, h3, h4⟩ := ma_RS_app (as := as) h2
    exact ⟨w :: ws', rest, rfl, ⟨h1, h3⟩, h4⟩
theorem ma_RS_mk {G : ma_G} : ∀ {as st : List ma_V} {ws rest : List Value}, ma_RS G as ws → ma_RS G st rest → ma_RS G (as ++ st) (ws ++ rest)
  | [], st, ws, rest, h, h2 => by rw [ma_RS_nil h]; exact h2
  | a :: as, st, ws, rest, h, h2 => by
    obtain ⟨w, ws', rfl, h3, h4⟩ := ma_RS_cons h
    exact ⟨h3, ma_RS_mk h4 h2⟩
theorem ma_RS_len {G : ma_G} : ∀ {st : List ma_V} {vs : List Value}, ma_RS G st vs → vs.length = st.length
  | [], vs, h => by rw [ma_RS_nil h]; rfl
  | a :: as, vs, h => by
    obtain ⟨w, ws', rfl, h3, h4⟩ := ma_RS_cons h
    rw [List.length_cons, List.length_cons, ma_RS_len h4]
theorem ma_RS_rev {G : ma_G} {st : List ma_V} {vs : List Value} (h : ma_RS G st vs) : ma_RS G st.reverse vs.reverse := by
  induction st generalizing vs with
  | nil => rw [ma_RS_nil h]; exact trivial
  | cons a as ih =>
    obtain ⟨w, ws', rfl, h3, h4⟩ := ma_RS_cons h
    rw [List.reverse_cons, List.reverse_cons]
    exact ma_RS_mk (ih h4) ⟨h3, trivial⟩
theorem ma_cats {vs : List Value} : (vs.map fun v => v.category).sum ≤ 2 * vs.length := by
  induction vs with
  | nil => simp
  | cons v vs ih =>
    simp only [List.map_cons, List.sum_cons, List.length_cons]
    rcases lv_cat v with h | h <;> omega
def ma_W (p : Program) (l : Launch) (e : Env) (R : Room) (s : State) (m : MethodId) (args : Array Value) (below : List Frame) (meth : Method) (c : Code) (Q : State → Prop) (G : ma_G) (nL c0 s0 : Nat) (pc : Nat) (ls st : List ma_V) (k : Nat) (μ : ma_M) : Prop :=
  ∀ (H : Heap) (locs : List Loc) (als : Array Slot) (vs : List Value), ma_HR G s μ H → va_S (ma_A G) s.heap H locs → ma_RL G nL ls als → ma_RS G st vs → W p l e R s m args below meth c H locs (c0 + k) (s0 + 6 * k) Q (F0 m pc als vs)
/-- the words that no table list carries, the statics, the classes that don't take each other -/
def ma_EX (G : ma_G) (U : State) : Prop := (∀ w ∈ ma_nests ++ (ma_casts ++ ma_decls), va_Nw w U) ∧ vx_Zq Bundle.tN "UNASSIGNED_STACK" Bundle.steD (ma_A G) U U.heap ∧ vx_Zq Bundle.tN "SUPPRESSED_SENTINEL" Bundle.listD (ma_A G) U U.heap ∧ va_Z "Latticefit$Blocks" "PATTERNS" "[I" (.ref (G.ad 1 0)) (ma_A G) U U.heap ∧ (∀ i j, i < 5 → j < 5 → i ≠ j → va_Nc (ma_ex i) (ma_ex j) U)
theorem ma_nests_moved {s U : State} (hW : s.WarmedH U.vm) (h : ∀ w ∈ ma_nests ++ (ma_casts ++ ma_decls), va_Nw w s) : ∀ w ∈ ma_nests ++ (ma_casts ++ ma_decls), va_Nw w U := by
  intro w hw
  have h1 := h w hw
  rcases List.mem_append.mp hw with q | q
  · obtain ⟨x, -, rfl⟩ := List.mem_map.mp q
    exact va_Nw.warmM hW h1
  · rcases List.mem_append.mp q with q | q
    · obtain ⟨x, -, rfl⟩ := List.mem_map.mp q
      exact va_Nw.warmC hW h1
    · obtain ⟨x, -, rfl⟩ := List.mem_map.mp q
      exact va_Nw.warmD hW h1
def ma_KX (G : ma_G) (U : State) : Prop := ma_KK G U ∧ ma_AD G ∧ G.h0 ≤ U.heap.size ∧ ma_EX G U
theorem ma_KX.moved {G : ma_G} {s U : State} {locs : List Loc} (hW : s.WarmedH U.vm) (hS : va_S (ma_A G) s.heap U.heap locs) (h : ma_KX G s) : ma_KX G U := by
  obtain ⟨h1, h2, h3, e1, e2, e3, e4, e5⟩ := h
  have hvm := hW.alike
  exact ⟨h1.moved hvm, h2, Nat.le_trans h3 hS.1, ma_nests_moved hW e1, vx_Zq.moved hvm (e2.kept hS.2.1), vx_Zq.moved hvm (e3.kept hS.2.1), va_Z.moved hvm (e4.kept hS.2.1), fun i j hi hj hij => va_Nc.moved hvm (e5 i j hi hj hij)⟩
theorem ma_KX.blind {G : ma_G} {U : State} {g : JFrame} {mk : MethodId} {a : Array Value} (h : ma_KX G U) : ma_KX G (U.calling g mk a) := by
  obtain ⟨h1, h2, h3, e1, e2, e3, e4, e5⟩ := h
  have hvm : U.vm.Alike (U.calling g mk a).vm := Vm.Alike.refl U.vm
  refine ⟨h1.moved hvm, h2, h3, fun w hw => ?_, vx_Zq.moved hvm e2, vx_Zq.moved hvm e3, va_Z.moved hvm e4, fun i j hi hj hij => va_Nc.moved hvm (e5 i j hi hj hij)⟩
  have hq : w.onTables = true := by
    rcases List.mem_append.mp hw with q | q
    · obtain ⟨x, -, rfl⟩ := List.mem_map.mp q; rfl
    · rcases List.mem_append.mp q with q | q
      · obtain ⟨x, -, rfl⟩ := List.mem_map.mp q; rfl
      · obtain ⟨x, -, rfl⟩ := List.mem_map.mp q; rfl
  exact va_Nw.same (u := U) hq rfl (e1 w hw)
def ma_Cx (p : Program) (s : State) (m : MethodId) (args : Array Value) (c : Code) (G : ma_G) (cc : ByteArray) (o nL : Nat) : Prop :=
  p.tables.exec = Jvm.exec ∧ c.code = cc ∧ c.maxLocals = nL ∧ s.vm.findClass (ma_own o) = some m.cls ∧ (∀ w ∈ ma_WG, w.before args s = true) ∧ ma_KK G s ∧ ma_AD G ∧ G.h0 ≤ s.heap.size ∧ ma_EX G s
section STP
variable {p : Program} {l : Launch} {e : Env} {R : Room} {s : State} {m : MethodId} {args : Array Value} {below : List Frame} {meth : Method} {c : Code} {Q : State → Prop} {G : ma_G} {cc : ByteArray} {o nL c0 s0 pc pc' k : Nat} {ls st : List ma_V} {μ : ma_M}
/-- the heap stays, the locals stay -/
theorem ma_pure {as bs : List ma_V} (hrow : ∀ (H : Heap) (locs : List Loc) (als : Array Slot) (ws : List Value), ma_HR G s μ H → va_S (ma_A G) s.heap H locs → ma_RL G nL ls als → ma_RS G as ws → ∃ bs', ma_RS G bs bs' ∧ ∀ (cells slots : Nat) (rest : List Value), W p l e R s m args below meth c H locs cells slots Q (F0 m pc' als (bs' ++ rest)) → W p l e R s m args below meth c H locs cells slots Q (F0 m pc als (ws ++ rest)))
    (hk : ma_W p l e R s m args below meth c Q G nL c0 s0 pc' ls (bs ++ st) k μ) : ma_W p l e R s m args below meth c Q G nL c0 s0 pc ls (as ++ st) k μ := by
  intro H locs als vs hH hS hL hR
  obtain ⟨ws, rest, rfl, h1, h2⟩ := ma_RS_app hR
  obtain ⟨bs', h3, h4⟩ := hrow H locs als ws hH hS hL h1
  exact h4 _ _ _ (hk H locs als _ hH hS hL (ma_RS_mk h3 h2))
theorem ma_bI {f : Int → Int → Int} {F : Int32 → Int32 → Int32} {x y : Int} (hF : ∀ a b, (F a b).toInt = f a.toInt b.toInt) (row : ∀ (a b : Int32), a.toInt = x → b.toInt = y → ∀ (H : Heap) (locs : List Loc) (als : Array Slot) (cells slots : Nat) (rest : List Value), W p l e R s m args below meth c H locs cells slots Q (F0 m pc' als (.int (F a b) :: rest)) → W p l e R s m args below meth c H locs cells slots Q (F0 m pc als (.int b :: .int a :: rest)))
    (hk : ma_W p l e R s m args below meth c Q G nL c0 s0 pc' ls (ma_I (f x y) :: st) k μ) : ma_W p l e R s m args below meth c Q G nL c0 s0 pc ls (ma_I y :: ma_I x :: st) k μ := by
  intro H locs als vs hH hS hL hR
  obtain ⟨_, vs2, rfl, ⟨b, rfl, hb⟩, hR2⟩ := ma_RS_cons hR
  obtain ⟨_, vs3, rfl, ⟨a, rfl, ha⟩, hR3⟩ := ma_RS_cons hR2
  exact row a b ha hb _ _ _ _ _ _ (hk H locs als _ hH hS hL ⟨⟨_, rfl, by rw [hF, ha, hb]⟩, hR3⟩)
theorem ma_bL {f : Int → Int → Int} {F : Int64 → Int64 → Int64} {x y : Int} (hF : ∀ a b, (F a b).toInt = f a.toInt b.toInt) (row : ∀ (a b : Int64), a.toInt = x → b.toInt = y → ∀ (H : Heap) (locs : List Loc) (als : Array Slot) (cells slots : Nat) (rest : List Value), W p l e R s m args below meth c H locs cells slots Q (F0 m pc' als (.long (F a b) :: rest)) → W p l e R s m args below meth c H locs cells slots Q (F0 m pc als (.long b :: .long a :: rest)))
    (hk : ma_W p l e R s m args below meth c Q G nL c0 s0 pc' ls (ma_L (f x y) :: st) k μ) : ma_W p l e R s m args below meth c Q G nL c0 s0 pc ls (ma_L y :: ma_L x :: st) k μ := by
  intro H locs als vs hH hS hL hR
  obtain ⟨_, vs2, rfl, ⟨b, rfl, hb⟩, hR2⟩ := ma_RS_cons hR
  obtain ⟨_, vs3, rfl, ⟨a, rfl, ha⟩, hR3⟩ := ma_RS_cons hR2
  exact row a b ha hb _ _ _ _ _ _ (hk H locs als _ hH hS hL ⟨⟨_, rfl, by rw [hF, ha, hb]⟩, hR3⟩)
theorem ma_bS {f : Int → Int → Int} {F : Int64 → Int32 → Int64} {x y : Int} (hF : ∀ a b, (F a b).toInt = f a.toInt b.toInt) (row : ∀ (a : Int64) (b : Int32) (H : Heap) (locs : List Loc) (als : Array Slot) (cells slots : Nat) (rest : List Value), W p l e R s m args below meth c H locs cells slots Q (F0 m pc' als (.long (F a b) :: rest)) → W p l e R s m args below meth c H locs cells slots Q (F0 m pc als (.int b :: .long a :: rest)))
    (hk : ma_W p l e R s m args below meth c Q G nL c0 s0 pc' ls (ma_L (f x y) :: st) k μ) : ma_W p l e R s m args below meth c Q G nL c0 s0 pc ls (ma_I y :: ma_L x :: st) k μ := by
  intro H locs als vs hH hS hL hR
  obtain ⟨_, vs2, rfl, ⟨b, rfl, hb⟩, hR2⟩ := ma_RS_cons hR
  obtain ⟨_, vs3, rfl, ⟨a, rfl, ha⟩, hR3⟩ := ma_RS_cons hR2
  exact row a b _ _ _ _ _ _ (hk H locs als _ hH hS hL ⟨⟨_, rfl, by rw [hF, ha, hb]⟩, hR3⟩)
theorem ma_oI (x : Int32) : Int32.ofInt x.toInt = x := by simp
theorem ma_oL (x : Int64) : Int64.ofInt x.toInt = x := by simp
theorem ma_f_add (a b : Int32) : (a + b).toInt = ma_wI (a.toInt + b.toInt) := by simp [ma_wI]
theorem ma_f_sub (a b : Int32) : (a - b).toInt = ma_wI (a.toInt - b.toInt) := by simp [ma_wI]
theorem ma_f_mul (a b : Int32) : (a * b).toInt = ma_wI (a.toInt * b.toInt) := by simp [ma_wI]
theorem ma_f_div (a b : Int32) : (a / b).toInt = ma_wI (a.toInt.tdiv b.toInt) := by simp [ma_wI, Int32.toInt_div]
theorem ma_f_rem (a b : Int32) : (a % b).toInt = a.toInt.tmod b.toInt := by simp
theorem ma_f_and (a b : Int32) : (a &&& b).toInt = ma_and a.toInt b.toInt := by simp only [ma_and, ma_oI]
theorem ma_f_or (a b : Int32) : (a ||| b).toInt = ma_or a.toInt b.toInt := by simp only [ma_or, ma_oI]
theorem ma_f_xor (a b : Int32) : (a ^^^ b).toInt = ma_xor a.toInt b.toInt := by simp only [ma_xor, ma_oI]
theorem ma_f_shl (a b : Int32) : (a <<< (b &&& 31)).toInt = ma_shl a.toInt b.toInt := by simp only [ma_shl, ma_oI]
theorem ma_f_shr (a b : Int32) : (a >>> (b &&& 31)).toInt = ma_shr a.toInt b.toInt := by simp only [ma_shr, ma_oI]
theorem ma_f_ushr (a b : Int32) : ((a.toUInt32 >>> (b.toUInt32 &&& Int32.toUInt32 31)).toInt32).toInt = ma_ushr a.toInt b.toInt := by simp only [ma_ushr, ma_oI]
theorem ma_f_ladd (a b : Int64) : (a + b).toInt = ma_wL (a.toInt + b.toInt) := by simp [ma_wL]
theorem ma_f_lsub (a b : Int64) : (a - b).toInt = ma_wL (a.toInt - b.toInt) := by simp [ma_wL]
theorem ma_f_lmul (a b : Int64) : (a * b).toInt = ma_wL (a.toInt * b.toInt) := by simp [ma_wL]
theorem ma_f_ldiv (a b : Int64) : (a / b).toInt = ma_wL (a.toInt.tdiv b.toInt) := by simp [ma_wL, Int64.toInt_div]
theorem ma_f_lrem (a b : Int64) : (a % b).toInt = a.toInt.tmod b.toInt := by simp
theorem ma_f_land (a b : Int64) : (a &&& b).toInt = ma_land a.toInt b.toInt := by simp only [ma_land, ma_oL]
theorem ma_f_lor (a b : Int64) : (a ||| b).toInt = ma_lor a.toInt b.toInt := by simp only [ma_lor, ma_oL]
theorem ma_f_lshl (a : Int64) (b : Int32) : (a <<< (b.toInt64 &&& 63)).toInt = ma_lshl a.toInt b.toInt := by simp only [ma_lshl, ma_oL, ma_oI]
theorem ma_f_lshr (a : Int64) (b : Int32) : (a >>> (b.toInt64 &&& 63)).toInt = ma_lshr a.toInt b.toInt := by simp only [ma_lshr, ma_oL, ma_oI]
theorem ma_f_lushr (a : Int64) (b : Int32) : ((a.toUInt64 >>> (b.toInt64.toUInt64 &&& Int64.toUInt64 63)).toInt64).toInt = ma_lushr a.toInt b.toInt := by simp only [ma_lushr, ma_oL, ma_oI]
theorem ma_ne0 {b : Int32} {y : Int} (h : b.toInt = y) (hy : y ≠ 0) : ¬ b = 0 := fun z => hy (by rw [← h, z]; rfl)
theorem ma_ne0L {b : Int64} {y : Int} (h : b.toInt = y) (hy : y ≠ 0) : ¬ b = 0 := fun z => hy (by rw [← h, z]; rfl)
theorem ma_f_i2c (a : Int32) : ((a.toUInt32 % 65536).toInt32).toInt = a.toInt % 65536 := by
  have h1 := Int32.toInt_lt a
  have h2 := Int32.le_toInt a
  have e : a.toUInt32.toNat = (a.toInt % 4294967296).toNat := by
    have : a.toInt = (a.toUInt32.toNat : Int).bmod 4294967296 := by
      show a.toBitVec.toInt = _
      rw [BitVec.toInt_eq_toNat_bmod]; rfl
    have h3 : a.toUInt32.toNat < 4294967296 := a.toUInt32.toNat_lt
    rw [this]
    simp only [Int.bmod_def]
    omega
  have h4 : (a.toUInt32 % 65536).toNat = a.toUInt32.toNat % 65536 := by simp
  have h5 : ((a.toUInt32 % 65536).toInt32).toInt = ((a.toUInt32 % 65536).toNat : Int) := by
    have h6 : (a.toUInt32 % 65536).toNat < 65536 := by rw [h4]; omega
    show (a.toUInt32 % 65536).toBitVec.toInt = _
    rw [BitVec.toInt_eq_toNat_bmod]
    show ((a.toUInt32 % 65536).toNat : Int).bmod 4294967296 = _
    simp only [Int.bmod_def]
    omega
  rw [h5, h4, e]
  omega
/-- loads -/
theorem ma_load {i : Nat} {v : ma_V} (hv : v ≠ ma_U) (hg : ls.getD i ma_U = v) (row : ∀ (w : Value), ma_Rv G v w → ∀ (H : Heap) (locs : List Loc) (als : Array Slot) (cells slots : Nat) (rest : List Value), als[i]? = some (.val w) → W p l e R s m args below meth c H locs cells slots Q (F0 m pc' als (w :: rest)) → W p l e R s m args below meth c H locs cells slots Q (F0 m pc als rest))
    (hk : ma_W p l e R s m args below meth c Q G nL c0 s0 pc' ls (v :: st) k μ) : ma_W p l e R s m args below meth c Q G nL c0 s0 pc ls st k μ := by
  intro H locs als vs hH hS hL hR
  obtain ⟨w, h1, h2⟩ := hL.get hg hv
  exact row w h2 _ _ _ _ _ _ h1 (hk H locs als _ hH hS hL ⟨h2, hR⟩)
/-- stores into locals -/
theorem ma_sto1 {i : Nat} {v : ma_V} (hi : i < ls.length) (row : ∀ (w : Value), ma_Rv G v w → ∀ (H : Heap) (locs : List Loc) (als : Array Slot) (cells slots : Nat) (rest : List Value) (lv : List (Nat × Value)), i < nL → lv_has als nL lv → (∀ als1, lv_has als1 nL ((i, w) :: lv.filter (fun q => !(q.1 == i) && !(q.1 + 1 == i && q.2.category == 2))) → W p l e R s m args below meth c H locs cells slots Q (F0 m pc' als1 rest)) → W p l e R s m args below meth c H locs cells slots Q (F0 m pc als (w :: rest)))
    (hk : ma_W p l e R s m args below meth c Q G nL c0 s0 pc' (ma_st1 ls i v) st k μ) : ma_W p l e R s m args below meth c Q G nL c0 s0 pc ls (v :: st) k μ := by
  intro H locs als vs hH hS hL hR
  obtain ⟨w, vs, rfl, hw, hR⟩ := ma_RS_cons hR
  obtain ⟨lv, h1, h2⟩ := ma_lvfull hL.2.1 hL.2.2.1
  exact row w hw _ _ _ _ _ _ lv (by rw [← hL.1]; exact hi) h1 (fun als1 h3 => hk H locs als1 vs hH hS (hL.st1 h2 rfl h3 hw) hR)
theorem ma_sto2 {i : Nat} {v : ma_V} (hi : i + 1 < ls.length) (row : ∀ (w : Value), ma_Rv G v w → ∀ (H : Heap) (locs : List Loc) (als : Array Slot) (cells slots : Nat) (rest : List Value) (lv : List (Nat × Value)), i + 1 < nL → lv_has als nL lv → (∀ als1, lv_has als1 nL ((i, w) :: lv.filter (fun q => !(q.1 == i) && (!(q.1 == i + 1) && !(q.1 + 1 == i && q.2.category == 2)))) → W p l e R s m args below meth c H locs cells slots Q (F0 m pc' als1 rest)) → W p l e R s m args below meth c H locs cells slots Q (F0 m pc als (w :: rest)))
    (hk : ma_W p l e R s m args below meth c Q G nL c0 s0 pc' (ma_st2 ls i v) st k μ) : ma_W p l e R s m args below meth c Q G nL c0 s0 pc ls (v :: st) k μ := by
  intro H locs als vs hH hS hL hR
  obtain ⟨w, vs, rfl, hw, hR⟩ := ma_RS_cons hR
  obtain ⟨lv, h1, h2⟩ := ma_lvfull hL.2.1 hL.2.2.1
  exact row w hw _ _ _ _ _ _ lv (by rw [← hL.1]; exact hi) h1 (fun als1 h3 => hk H locs als1 vs hH hS (hL.st2 h2 hi rfl h3 hw) hR)
/-- constants -/
theorem ma_psh {v : ma_V} {w : Value} (hw : ma_Rv G v w) (row : ∀ (H : Heap) (locs : List Loc) (als : Array Slot) (cells slots : Nat) (rest : List Value), W p l e R s m args below meth c H locs cells slots Q (F0 m pc' als (w :: rest)) → W p l e R s m args below meth c H locs cells slots Q (F0 m pc als rest))
    (hk : ma_W p l e R s m args below meth c Q G nL c0 s0 pc' ls (v :: st) k μ) : ma_W p l e R s m args below meth c Q G nL c0 s0 pc ls st k μ := by
  intro H locs als vs hH hS hL hR
  exact row _ _ _ _ _ _ (hk H locs als _ hH hS hL ⟨hw, hR⟩)
end STP
