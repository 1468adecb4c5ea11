/-! the law's entry: what the Statement gives of it (whole's text, for this claim's numbers) -/
def st_pat : List Int := [43690, 52428, 61680, 65280]
theorem st_eqi {args : Array Value} {s : State} {t : Term} {z : Int32} (h : (Cond.eq t (.int z)).before args s = true) : t.eval args s none [] s = some (.int z) := by
  cases hv : t.eval args s none [] s with
  | none => simp [Cond.before, Cond.holds, Cond.value, hv] at h
  | some w =>
    have hz : (Term.int z).eval args s none [] s = some (.int z) := rfl
    simp only [Cond.before, Cond.holds, Cond.value, hv, hz] at h
    cases w <;> simp_all
theorem st_elem {args : Array Value} {s : State} {t : Term} {a : Addr} {cell : Cell} {z j : Int32} {n : Nat} (ht : t.eval args s none [] s = some (.ref a)) (hc : s.arrayAt? a = some cell) (hn : j.toNatClampNeg = n) (h0 : ¬ j < 0) (h : (Term.elem t (.int j)).eval args s none [] s = some (.int z)) : cell.slots[n]? = some (.int z) := by
  subst hn
  simp only [Term.eval, ht, hc, Option.bind_eq_bind, Option.bind_some] at h
  simpa [h0] using h
theorem st_len {args : Array Value} {s : State} {t : Term} {a : Addr} {cell : Cell} (ht : t.eval args s none [] s = some (.ref a)) (hc : s.arrayAt? a = some cell) (h : (Term.length t).eval args s none [] s = some (.int 4)) : cell.slots.size = 4 := by
  simp only [Term.eval, ht, hc, Option.bind_eq_bind, Option.bind_some] at h
  by_cases hlt : cell.slots.size < 2147483648
  · have h4 : cell.slots.size.toInt32 = 4 := by simpa [hlt] using h
    have h5 := congrArg Int32.toInt h4
    rw [show cell.slots.size.toInt32 = Int32.ofNat cell.slots.size from rfl, Int32.toInt_ofNat_of_lt (by omega)] at h5
    have : (4 : Int32).toInt = 4 := rfl
    omega
  · simp [hlt] at h
theorem st_pats {args : Array Value} {s : State} {C n d : String} (h1 : (Cond.arrayOf (.static C n d) .int).before args s = true) (h2 : (Cond.eq (.length (.static C n d)) (.int 4)).before args s = true)
    (e0 : (Cond.eq (.elem (.static C n d) (.int 0)) (.int 43690)).before args s = true) (e1 : (Cond.eq (.elem (.static C n d) (.int 1)) (.int 52428)).before args s = true) (e2 : (Cond.eq (.elem (.static C n d) (.int 2)) (.int 61680)).before args s = true) (e3 : (Cond.eq (.elem (.static C n d) (.int 3)) (.int 65280)).before args s = true) :
    ∃ (pt : Addr) (cell : Cell), (Term.static C n d).eval args s none [] s = some (.ref pt) ∧ s.heap[pt]? = some cell ∧ s.isArrayOf cell .int ∧ cell.vm ≠ .unknown ∧ cell.slots.size = 4 ∧ ∀ j : Nat, j < 4 → cell.slots[j]? = some (.int (Int32.ofInt (st_pat.getD j 0))) := by
  have hl := st_eqi h2
  obtain ⟨b, cell, ht, harr, hv⟩ := Term.length_spec hl
  obtain ⟨hcell, hkn, -, -⟩ := State.arrayAt?_spec harr
  have hof := (Cond.arrayOf_spec h1 ht hcell).1
  have hsz : cell.slots.size = 4 := st_len ht harr hl
  refine ⟨b, cell, ht, hcell, hof, hkn, hsz, fun j hj => ?_⟩
  match j, hj with
  | 0, _ => exact st_elem ht harr rfl (by decide) (st_eqi e0)
  | 1, _ => exact st_elem ht harr rfl (by decide) (st_eqi e1)
  | 2, _ => exact st_elem ht harr rfl (by decide) (st_eqi e2)
  | 3, _ => exact st_elem ht harr rfl (by decide) (st_eqi e3)
/-- the classes, as the tables have them -/
theorem st_cls {args : Array Value} {s : State} (hts : ∀ w ∈ ma_WG, w.before args s = true) : ∃ q : Nat → ClassId × (Nat → Nat), ∀ ci, ci < 11 → u_Kn s (ma_C ci) (ma_T ci) (ma_N ci) (q ci).1 (q ci).2 := by
  have h : ∀ ci : Nat, ∃ q : ClassId × (Nat → Nat), ci < 11 → u_Kn s (ma_C ci) (ma_T ci) (ma_N ci) q.1 q.2 := fun ci => by
    by_cases hci : ci < 11
    · obtain ⟨cC, iS, h⟩ := u_known (C := ma_C ci) (T := ma_T ci) (N := ma_N ci) (n := ma_N ci) hts (ma_u_in ci hci) (hts _ (co_ins_w ci hci))
      exact ⟨(cC, iS), fun _ => h⟩
    · exact ⟨(0, fun _ => 0), fun z => absurd z hci⟩
  obtain ⟨f, hf⟩ := Classical.axiomOfChoice h
  exact ⟨f, hf⟩
theorem st_arr {args : Array Value} {s : State} (hts : ∀ w ∈ lw_tbl, w.before args s = true) (htg : ∀ w ∈ ma_WG, w.before args s = true) : ∃ q : Nat → ClassId, (∀ t, t ≤ 6 → s.vm.findClass (co_an t) = some (q t)) ∧ (∀ t, t ≤ 6 → ArrOfT s (q t) (ma_fat t)) := by
  have h : ∀ t : Nat, ∃ q : ClassId, t ≤ 6 → s.vm.findClass (co_an t) = some q ∧ ArrOfT s q (ma_fat t) := fun t => by
    by_cases ht : t ≤ 4
    · obtain ⟨c, k, comp, h1, h2, h3⟩ := Cond.arrayClass_spec (htg _ (co_ac_w t ht))
      exact ⟨c, fun _ => ⟨h1, fun n z => ⟨fun k h => (by cases h), k, h2, comp, h3⟩⟩⟩
    · by_cases ht6 : t ≤ 6
      · have key : ∀ d, d < 2 → ∃ q : ClassId, s.vm.findClass ("[" ++ (FieldType.array (ma_fat d)).toString) = some q ∧ ArrOfT s q (.array (ma_fat d)) := fun d hd => by
          obtain ⟨comp, c, k, h1, -, h3, h4, h5⟩ := arrayOverA_spec (hts _ (co_ao_in _ (List.mem_map.mpr ⟨d, List.mem_range.mpr hd, rfl⟩)))
          exact ⟨c, h5, fun n z => ⟨fun k h => (by cases h), k, h3, comp, h4⟩⟩
        match t, ht, ht6 with
        | 5, _, _ => obtain ⟨q, h1, h2⟩ := key 0 (by decide); exact ⟨q, fun _ => ⟨h1, h2⟩⟩
        | 6, _, _ => obtain ⟨q, h1, h2⟩ := key 1 (by decide); exact ⟨q, fun _ => ⟨h1, h2⟩⟩
        | 0, h, _ => omega
        | 1, h, _ => omega
        | 2, h, _ => omega
        | 3, h, _ => omega
        | 4, h, _ => omega
        | n + 7, _, h => omega
      · exact ⟨0, fun z => absurd z ht6⟩
  obtain ⟨f, hf⟩ := Classical.axiomOfChoice h
  exact ⟨f, fun t ht => (hf t ht).1, fun t ht => (hf t ht).2⟩
def st_T : Cond := Jvm.Cond.and given_1 narrow_1
abbrev st_S : Term := .static "Latticefit$Blocks" "PATTERNS" "[I"
theorem st_f1 : ∀ w ∈ ([.arrayOf st_S .int, .eq (.length st_S) (.int 4), .eq (.elem st_S (.int 0)) (.int 43690), .eq (.elem st_S (.int 1)) (.int 52428), .eq (.elem st_S (.int 2)) (.int 61680), .eq (.elem st_S (.int 3)) (.int 65280), .not (.eq (.arg 0) st_S), .isRef (.static "java/lang/Throwable" "UNASSIGNED_STACK" "[Ljava/lang/StackTraceElement;"), .isRef (.static "java/lang/Throwable" "SUPPRESSED_SENTINEL" "Ljava/util/List;")] : List Cond), w ∈ flatC st_T := by decide +kernel
theorem st_f2 : (List.range 5).all (fun i => (List.range 5).all (fun j => Nat.beq i j || decide (Cond.not (.castable (ma_ex i) (ma_ex j)) ∈ flatC st_T))) = true := by decide +kernel
theorem st_w1 : ∀ w ∈ ([.laysStatic "java/lang/Throwable" "UNASSIGNED_STACK" "[Ljava/lang/StackTraceElement;", .laysStatic "java/lang/Throwable" "SUPPRESSED_SENTINEL" "Ljava/util/List;", .laysStatic "Latticefit$Blocks" "PATTERNS" "[I", .initialized "java/lang/Throwable", .initialized "Latticefit$Blocks"] : List Cond), w ∈ lw_tbl := by decide +kernel

theorem st_G {args : Array Value} {s : State} {b L : Nat} {xs : Nat → Int32} (hargs : args = #[Value.ref b]) (hL : L ≤ 260) (hts : ∀ w ∈ lw_tbl, w.before args s = true) (hX : va_X b L xs s s.heap) (hbl : b < s.heap.size) (hgv : st_T.before args s = true) :
    ∃ (G : ma_G) (pt : Nat), G.h0 = s.heap.size ∧ G.LS = L ∧ G.ad 0 0 = b ∧ G.ad 1 0 = pt ∧ G.ad 69 0 = s.heap.size ∧ (∀ k, G.lv k = bg_LV k) ∧ pt < s.heap.size ∧ ma_KX G s ∧ co_Ex G s ∧ (∃ cell : Cell, s.heap[pt]? = some cell ∧ s.isArrayOf cell .int ∧ cell.vm ≠ .unknown ∧ cell.slots.size = 4 ∧ ∀ j : Nat, j < 4 → cell.slots[j]? = some (.int (Int32.ofInt (st_pat.getD j 0)))) := by
  have htg : ∀ w ∈ ma_WG, w.before args s = true := fun w hw => hts w (List.mem_filter.mp hw).1
  have hf := flat_of_before _ hgv
  have f1 : ∀ w ∈ ([.arrayOf st_S .int, .eq (.length st_S) (.int 4), .eq (.elem st_S (.int 0)) (.int 43690), .eq (.elem st_S (.int 1)) (.int 52428), .eq (.elem st_S (.int 2)) (.int 61680), .eq (.elem st_S (.int 3)) (.int 65280), .not (.eq (.arg 0) st_S), .isRef (.static "java/lang/Throwable" "UNASSIGNED_STACK" "[Ljava/lang/StackTraceElement;"), .isRef (.static "java/lang/Throwable" "SUPPRESSED_SENTINEL" "Ljava/util/List;")] : List Cond), w.before args s = true := fun w hw => hf w (st_f1 w hw)
  simp only [List.forall_mem_cons] at f1
  obtain ⟨g1, g2, g3, g4, g5, g6, g7, g8, g9, -⟩ := f1
  have w1 : ∀ w ∈ ([.laysStatic "java/lang/Throwable" "UNASSIGNED_STACK" "[Ljava/lang/StackTraceElement;", .laysStatic "java/lang/Throwable" "SUPPRESSED_SENTINEL" "Ljava/util/List;", .laysStatic "Latticefit$Blocks" "PATTERNS" "[I", .initialized "java/lang/Throwable", .initialized "Latticefit$Blocks"] : List Cond), w.before args s = true := fun w hw => hts w (st_w1 w hw)
  simp only [List.forall_mem_cons] at w1
  obtain ⟨l1, l2, l3, i1, i2, -⟩ := w1
  obtain ⟨pt, cell, hev, hcell, hpat⟩ := st_pats g1 g2 g3 g4 g5 g6
  have hpl : pt < s.heap.size := (Array.getElem?_eq_some_iff.mp hcell).1
  have hne : b ≠ pt := by
    intro z
    have ha : (Term.arg 0).eval args s none [] s = some (.ref b) := by rw [hargs]; rfl
    simp [Cond.before, Cond.holds, Cond.value, ha, hev, z] at g7
  obtain ⟨q, hq⟩ := st_cls htg
  obtain ⟨dA, hA1, hA2⟩ := st_arr hts htg
  have hA : ∀ a : Nat, a < s.heap.size → ¬ s.heap.size ≤ a := fun a h z => by omega
  have ad : ∀ (k : Nat) (r : Int), ((fun (k : Nat) (_ : Int) => if k = 0 then b else if k = 1 then pt else s.heap.size) : Nat → Int → Nat) k r = if k = 0 then b else if k = 1 then pt else s.heap.size := fun _ _ => rfl
  refine ⟨((fun k r => if k = 0 then b else if k = 1 then pt else s.heap.size), dA, fun ci => (q ci).1, fun ci => (q ci).2, s.heap.size, L, bg_LV), pt, rfl, rfl, rfl, rfl, rfl, fun _ => rfl, hpl, ⟨⟨hA2, hA1 0 (by decide), hq⟩, ⟨fun k k' r r' hv hv' h => ?_, fun k r hv h2 => ?_, by show L < 2147483648; omega, rfl, rfl, fun a h5 hl => ?_⟩, Nat.le_refl _, ⟨fun w hw => ?_, vx_Zqof l1 i1 g8 hA, vx_Zqof l2 i1 g9 hA, va_Zof l3 i2 hev hA, fun i j hi hj hij => ?_⟩⟩, ⟨hA1, fun w hw => ?_, fun t ht => ?_⟩, cell, hcell, hpat⟩
  · have lv : ∀ {k : Nat} {r : Int}, ma_val ((fun k r => if k = 0 then b else if k = 1 then pt else s.heap.size), dA, (fun ci => (q ci).1), (fun ci => (q ci).2), s.heap.size, L, bg_LV) k r → (k = 0 ∨ k = 1 ∨ k = 69) ∧ r = 0 := fun {k r} z => by
      have h1 : k = 0 ∨ k = 1 ∨ k = 69 := of_decide_eq_true z.2.2.2
      have h2 := bg_rows k z.1 (by omega)
      have h3 := z.2.1
      have h4 := z.2.2.1
      exact ⟨h1, by omega⟩
    obtain ⟨c1, rfl⟩ := lv hv
    obtain ⟨c2, rfl⟩ := lv hv'
    refine ⟨?_, rfl⟩
    have h : (if k = 0 then b else if k = 1 then pt else s.heap.size) = (if k' = 0 then b else if k' = 1 then pt else s.heap.size) := h
    rcases c1 with rfl | rfl | rfl <;> rcases c2 with rfl | rfl | rfl
    · rfl
    · exact absurd h hne
    · have h : b = s.heap.size := h; omega
    · exact absurd (show pt = b from h).symm hne
    · rfl
    · exact absurd hpl (by rw [show pt = s.heap.size from h]; exact Nat.lt_irrefl _)
    · have h : s.heap.size = b := h; omega
    · exact absurd hpl (by rw [show pt = s.heap.size from Eq.symm h]; exact Nat.lt_irrefl _)
    · rfl
  · show s.heap.size ≤ (if k = 0 then b else if k = 1 then pt else s.heap.size)
    rw [if_neg (by omega), if_neg (by omega)]
    exact Nat.le_refl _
  · have hl : a = 0 ∨ a = 1 ∨ a = 69 := of_decide_eq_true hl
    rcases hl with rfl | rfl | rfl <;> exact absurd h5 (by decide)
  · have h9 : w ∈ lw_tbl := by
      rcases List.mem_append.mp hw with z | z
      · exact ma_nests_in w z
      · rcases List.mem_append.mp z with z | z
        · exact ma_casts_in w z
        · exact ma_decls_in w z
    exact va_Nw.of (ma_NCD_ot w hw) (hts w h9)
  · have h9 := List.all_eq_true.mp (List.all_eq_true.mp st_f2 i (List.mem_range.mpr hi)) j (List.mem_range.mpr hj)
    rw [Bool.or_eq_true] at h9
    rcases h9 with z | z
    · exact absurd (Nat.eq_of_beq_eq_true z) hij
    · exact va_Nc.of (hf _ (of_decide_eq_true z))
  · have h9 := hts w (co_nests_in w hw)
    obtain ⟨x, -, rfl⟩ := List.mem_map.mp hw
    exact va_Nw.of rfl h9
  · exact over_moved (Vm.Alike.refl _) (hts _ (co_ao_in _ (List.mem_map.mpr ⟨t, List.mem_range.mpr ht, rfl⟩)))
/-- the law's first memory -/
def lw_mu (xs : Nat → Int32) : ma_M := fun k _ i => if k = 0 then (xs i.toNat).toInt else if k = 1 then st_pat.getD i.toNat 0 else 0
theorem lw_HR {G : ma_G} {s : State} {H : Heap} {b L pt : Nat} {xs : Nat → Int32} (g2 : G.LS = L) (g3 : G.ad 0 0 = b) (g4 : G.ad 1 0 = pt) (g5 : G.ad 69 0 = s.heap.size) (hlv : ∀ k, G.lv k = bg_LV k)
    (h8 : va_X b L xs s H) (h7 : ∃ cell : Cell, H[pt]? = some cell ∧ s.isArrayOf cell .int ∧ cell.vm ≠ .unknown ∧ cell.slots.size = 4 ∧ ∀ j : Nat, j < 4 → cell.slots[j]? = some (.int (Int32.ofInt (st_pat.getD j 0)))) (h69 : H[s.heap.size]? = some (arrV (G.dA 0) 430 (fun _ => .int 0))) : ma_HR G s (lw_mu xs) H := by
  intro k r hv
  have h1 : k = 0 ∨ k = 1 ∨ k = 69 := by have := hv.2.2.2; rw [hlv] at this; exact of_decide_eq_true this
  have hr : r = 0 := by
    have h2 := bg_rows k hv.1 (by omega)
    have h3 := hv.2.1
    have h4 := hv.2.2.1
    omega
  subst hr
  rcases h1 with rfl | rfl | rfl
  · obtain ⟨cell, e1, e2, e3, e4, e5⟩ := h8
    refine ⟨fun z => absurd z (by decide), fun z => absurd z (by decide), fun _ => ⟨cell, by rw [g3]; exact e1, e2, e3, ?_, fun _ => by rw [g2]; exact e4, fun i hi0 hi1 => ?_⟩, fun ci z => ?_⟩
    · show G.LS ≤ _
      rw [g2, e4]; exact Nat.le_refl _
    · have hi1 : i < (G.LS : Int) := hi1
      have hx : lw_mu xs 0 0 i = (xs i.toNat).toInt := rfl
      rw [hx]
      exact ⟨⟨(ma_rng _).1, (ma_rng _).2⟩, by rw [e5 i.toNat (by omega), ma_oI]⟩
    · have : (8 : Nat) = 10 + ci := z
      omega
  · obtain ⟨cell, e1, e2, e3, e4, e5⟩ := h7
    refine ⟨fun z => absurd z (by decide), fun z => absurd z (by decide), fun _ => ⟨cell, by rw [g4]; exact e1, e2, e3, ?_, fun z => absurd z (by decide), fun i hi0 hi1 => ?_⟩, fun ci z => ?_⟩
    · rw [e4]; exact Nat.le_refl 4
    · have hi1 : i < (4 : Int) := hi1
      have hx : lw_mu xs 1 0 i = st_pat.getD i.toNat 0 := rfl
      rw [hx]
      refine ⟨?_, e5 i.toNat (by omega)⟩
      obtain ⟨n, rfl⟩ : ∃ n : Nat, i = n := ⟨i.toNat, by omega⟩
      have hn : n < 4 := by omega
      match n, hn with
      | 0, _ => exact ⟨by decide, by decide⟩
      | 1, _ => exact ⟨by decide, by decide⟩
      | 2, _ => exact ⟨by decide, by decide⟩
      | 3, _ => exact ⟨by decide, by decide⟩
    · have : (7 : Nat) = 10 + ci := z
      omega
  · refine ⟨fun _ => ⟨?_, fun i _ _ => ?_⟩, fun z => absurd z (by decide), fun z => absurd z (by decide), fun ci z => ?_⟩
    · rw [g5]; exact h69
    · show ma_can 0 0
      exact ⟨by decide, by decide⟩
    · have : (0 : Nat) = 10 + ci := z
      omega
/-! THE CLAIM OUT OF ONE WALK OF THE LAW'S BODY. Your part is whole_start (and what it stands on); all else here is the same for every law, but numbers. -/
def R_law : String := "LatticefitLaw"
def lw_P (b : Addr) (xs : List Int32) (args : Array Value) (s : State) : Prop := args = #[.ref b] ∧ s.IntsAt b xs ∧ xs.length ≤ 260 ∧ (Jvm.Cond.and given_1 narrow_1).before args s = true
def lw_Q (_ : Array Value) (s : State) (o : Outcome) (t : State) : Prop := o = .returned (some (.int 1)) ∧ Framed s o t [] 600390 7291200
def lw_Z (below : List Frame) (a : Array Value) (s : State) : State → Prop := fun t => ∃ o, t.status = .running ∧ Ended t below o ∧ lw_Q a s o t
/-- the law's own end, with 1 on the stack, nothing written that was there before, its room as the claim has it -/
theorem lw_ret {p : Program} {l : Launch} {e : Env} {s : State} {m : MethodId} {below : List Frame} {meth : Method} {c : Code} {b : Nat} (hx : p.tables.exec = Jvm.exec) (hb : c.code = code) (hr : meth.sig.returnType = ret) (hlocks : meth.locks = false) {pc : Nat} {H : Heap} {ls : Array Slot} (hdg : decode code pc = .ok (.ireturn, 1)) : W p l e room_1 s m #[Value.ref b] below meth c H [] 600390 7291200 (lw_Z below #[Value.ref b] s) (F0 m pc ls [.int 1]) := by
  intro T hT X
  obtain ⟨fs, hret, hrun, hended, hW, hframe⟩ := X.leave (v := some (.int 1)) (hlocks := hlocks) (fun h => by rw [hr] at h; cases h)
  have hmeth' : T.vm.method? m = some meth := X.method'
  refine ⟨T.setFrames fs, ?_, .returned (some (.int 1)), hrun, hended, rfl, ⟨_, rfl⟩, hW, hframe⟩
  jvm_step X.here [X.here.top, hx, hb, hdg, hmeth', hr, ret, narrow_b1]
  (try refine ⟨rfl, ?_⟩); (try refine ⟨rfl, ?_⟩)
  first | (intro acts; rw [hret _ acts rfl rfl rfl]) | rw [hret _ _ rfl rfl rfl]
  exact Steps.refl _
/-- what holds at the law's entry: the machine, the code, the tables' words (any of lw_tbl by 'hts w (by decide +kernel)'), the script of L ints xs at the cell b, what the Statement gives of the start (any of its parts by flat_of_before) -/
def lw_At (p : Program) (s : State) (m : MethodId) (meth : Method) (c : Code) (b L : Nat) (xs : Nat → Int32) : Prop :=
  p.tables.exec = Jvm.exec ∧ c.code = code ∧ meth.sig.returnType = ret ∧ c.maxLocals = 13 ∧ s.vm.findClass R_law = some m.cls ∧ (∀ w ∈ lw_tbl, w.before #[Value.ref b] s = true) ∧ va_X b L xs s s.heap ∧ b < s.heap.size ∧ meth.locks = false ∧ (Jvm.Cond.and given_1 narrow_1).before #[Value.ref b] s = true
