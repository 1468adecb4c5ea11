/-! multianewarray: a row of the JVM's own step (the kit has none) -/
/-! multianewarray of two dimensions: the states on its way -/
def mn_st (U : State) (cA cB : ClassId) (n1 n2 : Nat) (dv : Value) : Nat → State
  | 0 => U.pushCell { cls := cA, slots := Array.replicate n1 .null, vm := .none }
  | j + 1 => ((mn_st U cA cB n1 n2 dv j).pushCell { cls := cB, slots := Array.replicate n2 dv, vm := .none }).setCell U.heap.size ((arrV cA n1 (fun i => if i < j then .ref (U.heap.size + 1 + i) else .null)).setSlot j (.ref (U.heap.size + 1 + j)))
theorem mn_top (U : State) (cA cB : ClassId) (n1 n2 : Nat) (dv : Value) (f : JFrame) : ∀ j, mn_st (U.setTop f) cA cB n1 n2 dv j = (mn_st U cA cB n1 n2 dv j).setTop f
  | 0 => by simp [mn_st]
  | j + 1 => by simp only [mn_st, mn_top U cA cB n1 n2 dv f j, State.pushCell_setTop, State.setCell_setTop, State.heap_setTop]
theorem mn_set (cA : ClassId) (n j h : Nat) (hj : j < n) : (arrV cA n (fun i => if i < j then Value.ref (h + i) else .null)).setSlot j (.ref (h + j)) = arrV cA n (fun i => if i < j + 1 then Value.ref (h + i) else .null) := by
  unfold Cell.setSlot arrV
  congr 1
  apply Array.ext
  · simp
  · intro i h1 h2
    simp at h1 h2
    rw [Array.getElem_setIfInBounds (by simpa using h1)]
    by_cases e : j = i
    · subst e; simp
    · simp only [e, if_false, Array.getElem_ofFn]
      by_cases z : i < j
      · rw [if_pos z, if_pos (by omega)]
      · rw [if_neg z, if_neg (by omega)]
/-- what lies there -/
theorem mn_heap (U : State) (cA cB : ClassId) (n1 n2 : Nat) (dv : Value) : ∀ j, j ≤ n1 →
    (mn_st U cA cB n1 n2 dv j).heap.size = U.heap.size + 1 + j ∧ (mn_st U cA cB n1 n2 dv j).heap[U.heap.size]? = some (arrV cA n1 (fun i => if i < j then .ref (U.heap.size + 1 + i) else .null)) ∧
    (∀ i, i < j → (mn_st U cA cB n1 n2 dv j).heap[U.heap.size + 1 + i]? = some (arrV cB n2 (fun _ => dv))) ∧ (∀ q : Nat, q < U.heap.size → (mn_st U cA cB n1 n2 dv j).heap[q]? = U.heap[q]?)
  | 0, _ => by
    refine ⟨by simp [mn_st], ?_, fun i h => by omega, fun q hq => ?_⟩
    · simp [mn_st]
      exact arrV_new _ _ _
    · show (U.heap.push _)[q]? = _
      rw [Array.getElem?_push, if_neg (Nat.ne_of_lt hq)]
  | j + 1, hj => by
    obtain ⟨h1, h2, h3, h4⟩ := mn_heap U cA cB n1 n2 dv j (by omega)
    have hp : ((mn_st U cA cB n1 n2 dv j).pushCell { cls := cB, slots := Array.replicate n2 dv, vm := .none }).heap = (mn_st U cA cB n1 n2 dv j).heap.push { cls := cB, slots := Array.replicate n2 dv, vm := .none } := rfl
    have hlt : U.heap.size < ((mn_st U cA cB n1 n2 dv j).pushCell { cls := cB, slots := Array.replicate n2 dv, vm := .none }).heap.size := by rw [hp, Array.size_push]; omega
    refine ⟨?_, ?_, fun i hi => ?_, fun q hq => ?_⟩
    · simp only [mn_st, size_setCell, hp, Array.size_push, h1]; omega
    · simp only [mn_st]
      rw [heapAt_setCell_self (a := U.heap.size) _ (hlt), mn_set cA n1 j _ (by omega)]
    · simp only [mn_st]
      rw [heapAt_setCell_ne (a := U.heap.size) (b := U.heap.size + 1 + i) _ (Nat.ne_of_lt (by omega)), hp, Array.getElem?_push]
      by_cases e : i = j
      · subst e
        rw [if_pos (by omega)]
        exact congrArg some (arrV_new _ _ _)
      · rw [if_neg (by omega)]
        exact h3 i (by omega)
    · simp only [mn_st]
      rw [heapAt_setCell_ne (a := U.heap.size) (b := q) _ (Nat.ne_of_gt hq), hp, Array.getElem?_push, if_neg (by omega)]
      exact h4 q hq
section MN
variable {p : Program} {l : Launch} {e : Env} {R : Room} {s : State} {m : MethodId} {args : Array Value} {below : List Frame} {meth : Method} {c : Code} {T : State} {locs : List Loc} {cells slots : Nat}
theorem mn_stand (X : Stand p l e R s m args below meth c T locs cells slots) (cA cB : ClassId) (n1 n2 : Nat) (dv : Value) : ∀ j, j ≤ n1 →
    ∃ L : List Loc, (∀ q ∈ L, q.base = T.heap.size) ∧ Stand p l e R s m args below meth c (mn_st T cA cB n1 n2 dv j) (locs ++ L) (cells + 1 + j) (slots + n1 + j * n2)
  | 0, _ => by
    have := X.pushed { cls := cA, slots := Array.replicate n1 .null, vm := .none }
    refine ⟨[], ⟨fun q h => absurd h List.not_mem_nil, ?_⟩⟩
    simpa [mn_st] using this
  | j + 1, hj => by
    obtain ⟨L, h1, h2⟩ := mn_stand X cA cB n1 n2 dv j (by omega)
    have h3 := h2.pushed { cls := cB, slots := Array.replicate n2 dv, vm := .none }
    obtain ⟨g1, g2, g3, g4⟩ := mn_heap T cA cB n1 n2 dv j (by omega)
    have h4 := h3.stored (a := T.heap.size) (cell := arrV cA n1 (fun i => if i < j then .ref (T.heap.size + 1 + i) else .null)) (by
      show ((mn_st T cA cB n1 n2 dv j).heap.push _)[T.heap.size]? = _
      rw [Array.getElem?_push, if_neg (by omega)]; exact g2) j (.ref (T.heap.size + 1 + j))
    refine ⟨L ++ [⟨T.heap.size, j⟩], fun q hq => ?_, ?_⟩
    · rcases List.mem_append.mp hq with z | z
      · exact h1 q z
      · simp at z; rw [z]
    · rw [← List.append_assoc]
      have e1 : cells + 1 + j + 1 = cells + 1 + (j + 1) := by omega
      have e2 : slots + n1 + j * n2 + (Array.replicate n2 dv).size = slots + n1 + (j + 1) * n2 := by rw [Array.size_replicate, Nat.add_mul, Nat.one_mul, Nat.add_assoc]
      rw [e1, e2] at h4
      exact h4
end MN
section WPM
variable {E : CtlPost} {e : Env} {d : Bool} {acts : List Action} {U : State}
theorem mn_allocn {cA : ClassId} {kA : Class} {comp : ClassId} {ty : FieldType} {n : Nat} {dv : Value} {Q : Addr → Pre} {U : State} {d : Bool} {acts : List Action} (hk : U.vm.classes[cA]? = some kA) (hkind : kA.kind = .array comp ty) (hfitd : fits ty dv = true) (hlimit : ¬ n > e.platform.arrayLengthLimit) (hheap : ¬ n * componentBytes ty > e.platform.maxHeapBytes)
    (h1 : U.heap.size < e.platform.maxCells) (h2 : U.slotsUsed + n ≤ e.platform.maxSlots) (hq : ∀ acts', Q U.heap.size d acts' (U.pushCell { cls := cA, slots := Array.replicate n dv, vm := .none })) : wp (Jvm.newArray cA n dv) Q E e d acts U := by
  have hfit : ∀ i v, (Array.replicate n dv)[i]? = some v → U.fitsSlot cA .none i v = true := by
    intro i v hv
    simp only [Array.getElem?_replicate] at hv
    split at hv
    · cases hv; simp [State.fitsSlot, State.slotType?, hk, hkind, hfitd]
    · cases hv
  simp only [Jvm.newArray, Jvm.arrayFits, wp_bind', W.ask, W.ite, hlimit, if_false, wp_pure', W.theClass, hk, hkind, hheap, W.alloc, Array.size_replicate, W.stop]
  simp only [Option.some.injEq, exists_eq_left', hkind, wp_bind', W.ask, W.ite, hheap, if_false, wp_pure', W.alloc, Array.size_replicate, W.stop]
  rw [if_neg (by omega)]
  exact ⟨h1, h2, hfit, hq _⟩
theorem mn_vm (U : State) (cA cB : ClassId) (n1 n2 : Nat) (dv : Value) : ∀ j, (mn_st U cA cB n1 n2 dv j).vm = U.vm
  | 0 => rfl
  | j + 1 => mn_vm U cA cB n1 n2 dv j
/-- the loop over the rows -/
theorem mn_loop {cA cB : ClassId} {kB : Class} {comp : ClassId} {ty : FieldType} {n1 n2 : Nat} {c2 : Int32} {f : Nat → PUnit → Sem (ForInStep PUnit)} {Q : PUnit → Pre}
    (hf : f = fun i _ => do writeLoc U.heap.size i (.ref (← multianewarray.make cB [c2])); Pure.pure (ForInStep.yield PUnit.unit))
    (hmk : ∀ (j : Nat) (acts' : List Action) (d' : Bool) (Q' : Addr → Pre), j < n1 → (∀ acts'', Q' (mn_st U cA cB n1 n2 (defaultValue ty) j).heap.size d' acts'' ((mn_st U cA cB n1 n2 (defaultValue ty) j).pushCell { cls := cB, slots := Array.replicate n2 (defaultValue ty), vm := .none })) → wp (multianewarray.make cB [c2]) Q' E e d' acts' (mn_st U cA cB n1 n2 (defaultValue ty) j))
    (hfitA : ∀ (V : State) (i : Nat) (a : Addr), V.vm = U.vm → V.fitsSlot cA .none i (.ref a) = true)
    (hq : ∀ d' acts', Q PUnit.unit d' acts' (mn_st U cA cB n1 n2 (defaultValue ty) n1)) : wp (forIn (List.range' 0 n1) PUnit.unit f) Q E e d acts (mn_st U cA cB n1 n2 (defaultValue ty) 0) := by
  refine wp_forIn_inv (fun rest s' => ∃ j, j ≤ n1 ∧ rest = List.range' j (n1 - j) ∧ s' = mn_st U cA cB n1 n2 (defaultValue ty) j) f _ ⟨0, Nat.zero_le _, rfl, rfl⟩ ?_ ?_
  · rintro x rest s' d' acts' Q' ⟨j, hj, hr, rfl⟩ hk
    obtain ⟨k, hk1⟩ : ∃ k, n1 - j = k + 1 := ⟨n1 - j - 1, by
      cases h : n1 - j with
      | zero => rw [h] at hr; simp at hr
      | succ k => omega⟩
    rw [hk1, List.range'_succ] at hr
    have hx := (List.cons.inj hr).1.symm
    have hrest := (List.cons.inj hr).2
    subst hx
    rw [hf]
    simp only [wp_bind', wp_pure', W.writeLoc]
    refine hmk j _ _ _ (by omega) (fun acts'' => ?_)
    obtain ⟨g1, g2, g3, g4⟩ := mn_heap U cA cB n1 n2 (defaultValue ty) j hj
    refine ⟨arrV cA n1 (fun i => if i < j then .ref (U.heap.size + 1 + i) else .null), ?_, by unfold arrV; simp, by unfold arrV; simp; omega, ?_, ?_⟩
    · show ((mn_st U cA cB n1 n2 (defaultValue ty) j).heap.push _)[U.heap.size]? = _
      rw [Array.getElem?_push, if_neg (by omega)]; exact g2
    · exact hfitA _ _ _ (mn_vm U cA cB n1 n2 (defaultValue ty) j)
    · exact hk _ _ _ ⟨j + 1, by omega, by rw [show n1 - (j + 1) = k by omega]; exact hrest, by rw [g1]; rfl⟩
  · rintro s' d' acts' ⟨j, hj, hr, rfl⟩
    have : n1 - j = 0 := by
      cases h : n1 - j with
      | zero => rfl
      | succ k => rw [h, List.range'_succ] at hr; cases hr
    have e : j = n1 := by omega
    rw [e]; exact hq _ _
end WPM
section WPS
variable {E : CtlPost} {e : Env} {d : Bool} {acts : List Action} {T : State} {f : JFrame}
theorem mn_make {U : State} {cA cB comp : ClassId} {kA kB : Class} {ty : FieldType} {c1 c2 : Int32} {n1 n2 : Nat} {Q : Addr → Pre} (h1 : c1.toNatClampNeg = n1) (h2 : c2.toNatClampNeg = n2) (p1 : ¬ c1 < 0) (p2 : ¬ c2 < 0) (z1 : ¬ c1 = 0)
    (hkA : U.vm.classes[cA]? = some kA) (hkindA : kA.kind = .array cB (.array ty)) (hkB : U.vm.classes[cB]? = some kB) (hkindB : kB.kind = .array comp ty) (hdf : fits ty (defaultValue ty) = true)
    (hl1 : ¬ n1 > e.platform.arrayLengthLimit) (hh1 : ¬ n1 * 4 > e.platform.maxHeapBytes) (hl2 : ¬ n2 > e.platform.arrayLengthLimit) (hh2 : ¬ n2 * componentBytes ty > e.platform.maxHeapBytes)
    (r0 : U.heap.size < e.platform.maxCells ∧ U.slotsUsed + n1 ≤ e.platform.maxSlots) (rj : ∀ j, j < n1 → (mn_st U cA cB n1 n2 (defaultValue ty) j).heap.size < e.platform.maxCells ∧ (mn_st U cA cB n1 n2 (defaultValue ty) j).slotsUsed + n2 ≤ e.platform.maxSlots)
    (hq : ∀ d' acts', Q U.heap.size d' acts' (mn_st U cA cB n1 n2 (defaultValue ty) n1)) : wp (multianewarray.make cA [c1, c2]) Q E e d acts U := by
  subst h1; subst h2
  unfold multianewarray.make
  simp only [wp_bind', W.ite, p1, if_false, wp_pure', W.theClass, hkA, Option.some.injEq, exists_eq_left', hkindA]
  refine mn_allocn hkA hkindA (by rfl) hl1 hh1 r0.1 r0.2 (fun acts' => ?_)
  have z1' : (c1 == 0) = false := by simpa using z1
  simp only [z1', Bool.false_eq_true, if_false, wp_pure', wp_bind', W.ite]
  rw [Std.Legacy.Range.forIn_eq_forIn_range']
  have hr : List.range' [:c1.toNatClampNeg].start [:c1.toNatClampNeg].size [:c1.toNatClampNeg].step = List.range' 0 c1.toNatClampNeg := by simp [Std.Legacy.Range.size]
  rw [hr]
  show wp (forIn (List.range' 0 c1.toNatClampNeg) PUnit.unit _) _ E e d acts' (mn_st U cA cB c1.toNatClampNeg c2.toNatClampNeg (defaultValue ty) 0)
  refine mn_loop (U := U) (cA := cA) (cB := cB) (kB := kB) (comp := comp) (ty := ty) (n1 := c1.toNatClampNeg) (n2 := c2.toNatClampNeg) (c2 := c2) ?_ ?_ ?_ ?_
  · rfl
  · intro j acts1 d1 Q1 hj hq1
    obtain ⟨g1, g2⟩ := rj j hj
    have hv := mn_vm U cA cB c1.toNatClampNeg c2.toNatClampNeg (defaultValue ty) j
    unfold multianewarray.make
    simp only [wp_bind', W.ite, p2, if_false, wp_pure', W.theClass, hv, hkB, Option.some.injEq, exists_eq_left', hkindB]
    exact mn_allocn (by rw [hv]; exact hkB) hkindB hdf hl2 hh2 g1 g2 hq1
  · intro V i a hV
    simp [State.fitsSlot, State.slotType?, hV, hkA, hkindA]
    rfl
  · intro d1 acts1
    simp only [wp_pure']
    exact hq _ _
end WPS
section WPT
variable {p : Program} {l : Launch} {e : Env} {R : Room} {s : State} {m : MethodId} {args : Array Value} {below : List Frame} {meth : Method} {c : Code} {H : Heap} {locs : List Loc} {cells slots : Nat} {Q : State → Prop}
theorem mn_cold {E : CtlPost} {e : Env} {d : Bool} {acts : List Action} {s : State} {f : JFrame} {Q : Unit → Pre} {index dims c : Nat} {vm' : Vm} (hs : s.topJava?.isSome) (hg : (Jvm.resolveClass f.method.cls index).Gives e.toSetting s.vm (.ok c) vm') (hr : vm'.classReady f.method.cls index c)
    (hsz : vm'.classes.size ≤ s.vm.classes.size := by no_record) :
    wp (multianewarray.sem index dims) Q E e d acts (s.setTop f) ↔ wp (multianewarray.sem index dims) Q E e d acts ((s.setVm vm').setTop f) := by
  simp only [multianewarray.sem, wp_bind']
  exact W.resolveClassAt_transfer (s := s.setTop f) (State.method?_setTop f hs) hg hr
theorem mn_ready {E : CtlPost} {e : Env} {d : Bool} {acts : List Action} {T : State} {f : JFrame} {Q : Unit → Pre} {index : Nat} {rest : List Value} {cA cB comp : ClassId} {kA kB : Class} {ty : FieldType} {c1 c2 : Int32} {n1 n2 : Nat} (hs : T.topJava?.isSome) (hr : T.vm.classReady f.method.cls index cA) (hstack : f.stack = .int c2 :: .int c1 :: rest)
    (h1 : c1.toNatClampNeg = n1) (h2 : c2.toNatClampNeg = n2) (p1 : ¬ c1 < 0) (p2 : ¬ c2 < 0) (z1 : ¬ c1 = 0)
    (hkA : T.vm.classes[cA]? = some kA) (hkindA : kA.kind = .array cB (.array ty)) (hkB : T.vm.classes[cB]? = some kB) (hkindB : kB.kind = .array comp ty) (hdf : fits ty (defaultValue ty) = true)
    (hl1 : ¬ n1 > e.platform.arrayLengthLimit) (hh1 : ¬ n1 * 4 > e.platform.maxHeapBytes) (hl2 : ¬ n2 > e.platform.arrayLengthLimit) (hh2 : ¬ n2 * componentBytes ty > e.platform.maxHeapBytes)
    (r0 : T.heap.size < e.platform.maxCells ∧ T.slotsUsed + n1 ≤ e.platform.maxSlots) (rj : ∀ j, j < n1 → (mn_st T cA cB n1 n2 (defaultValue ty) j).heap.size < e.platform.maxCells ∧ (mn_st T cA cB n1 n2 (defaultValue ty) j).slotsUsed + n2 ≤ e.platform.maxSlots)
    (hq : ∀ d' acts', Q () d' acts' ((mn_st T cA cB n1 n2 (defaultValue ty) n1).setTop { f with stack := .ref T.heap.size :: rest })) : wp (multianewarray.sem index 2) Q E e d acts (T.setTop f) := by
  have ht : ∀ j, (mn_st T cA cB n1 n2 (defaultValue ty) j).topJava?.isSome := by
    intro j
    induction j with
    | zero => exact hs
    | succ j ih => exact ih
  simp only [multianewarray.sem, wp_bind', W.resolveClassAt_ready (State.method?_setTop f hs) hr]
  rw [show (2 : Nat) = ([Value.int c1, Value.int c2] : List Value).length from rfl, popN_top hs (rest := rest) (by rw [hstack]; rfl)]
  simp only [List.mapM_cons, List.mapM_nil, wp_bind', wp_pure']
  refine mn_make (U := T.setTop { f with stack := rest }) (cB := cB) (comp := comp) (kA := kA) (kB := kB) (ty := ty) h1 h2 p1 p2 z1 hkA hkindA hkB hkindB hdf hl1 hh1 hl2 hh2 r0 (fun j hj => by rw [mn_top]; exact rj j hj) (fun d' acts' => ?_)
  rw [mn_top]
  simp only [wp_bind', W.mark, W.pushRef, State.topJava?_setTop' _ (ht n1), Option.some.injEq, exists_eq_left', State.setTop_setTop, State.heap_setTop]
  exact hq _ _
/-- the row -/
theorem mn_row {cc : ByteArray} (hexec : p.tables.exec = Jvm.exec) (hb : c.code = cc) {own C : String} {index : Nat} {t : FieldType} (hown : s.vm.findClass own = some m.cls) (hC : C = "[" ++ (FieldType.array t).toString) (hclink : (Cond.classLink own index C).before args s = true) (hover : (Cond.arrayOver (.array t)).before args s = true) (harr : (Cond.arrayClass t).before args s = true)
    (hdf : fits t (defaultValue t) = true) (hcb : 1 ≤ componentBytes t) {g : JFrame} (hg : g.method = m) (hdg : decode cc g.pc = .ok (.multianewarray index 2, 4)) {c1 c2 : Int32} {n1 n2 : Nat} {rest : List Value} (hstack : g.stack = .int c2 :: .int c1 :: rest)
    (h1 : c1.toNatClampNeg = n1) (h2 : c2.toNatClampNeg = n2) (p1 : ¬ c1 < 0) (p2 : ¬ c2 < 0) (z1 : ¬ c1 = 0) (hb1 : n1 * 4 ≤ 536870912) (hb2 : n2 * componentBytes t ≤ 536870912) (hcells : cells + 1 + n1 ≤ R.cells) (hslots : slots + n1 + n1 * n2 ≤ R.slots) {h : Nat} (hh : H.size = h)
    (kk : ∀ (H' : Heap) (L : List Loc) (cA cB : ClassId), s.vm.findClass C = some cA → s.vm.findClass ("[" ++ t.toString) = some cB → H'[h]? = some (arrV cA n1 (fun i => if i < n1 then .ref (h + 1 + i) else .null)) → (∀ i, i < n1 → H'[h + 1 + i]? = some (arrV cB n2 (fun _ => defaultValue t))) → H'.size = h + 1 + n1 → (∀ q : Nat, q < h → H'[q]? = H[q]?) → (∀ q ∈ L, q.base = h) →
      W p l e R s m args below meth c H' (locs ++ L) (cells + 1 + n1) (slots + n1 + n1 * n2) Q { g with pc := g.pc + 4, stack := .ref h :: rest }) : W p l e R s m args below meth c H locs cells slots Q g := by
  intro T hT X
  subst hT; subst hb; subst hg; subst hh; subst hC
  have hpl : e.platform.magicAccessors = ({} : Platform).magicAccessors := by rw [X.admits.platform]
  obtain ⟨cB, cA, kA, hcomp, hidx, hkA, hkindA, hnameA⟩ := arrayOverA_spec hover
  obtain ⟨cB', kB, comp, hnB, hkB, hkindB⟩ := Cond.arrayClass_spec harr
  have eB : cB' = cB := Option.some.inj (hnB.symm.trans hcomp)
  subst eB
  obtain ⟨cc', hfcc, hcl⟩ := Cond.classLink_spec hown hclink e.platform hpl
  cases hnameA.symm.trans hfcc
  obtain ⟨hg₁, hwarm₁, hready₁⟩ := State.classEntry (e := e) X.warmed hcl
  generalize T.vm.noted g.method.cls index (.cls cA) = vm₁ at hg₁ hwarm₁ hready₁
  have hal : s.vm.Alike vm₁ := hwarm₁.alike
  obtain ⟨kA₁, hkA₁, heA⟩ := hal.2.2 _ _ hkA
  obtain ⟨kB₁, hkB₁, heB⟩ := hal.2.2 _ _ hkB
  have hkindA₁ : kA₁.kind = .array cB' (.array t) := by rw [heA]; exact hkindA
  have hkindB₁ : kB₁.kind = .array comp t := by rw [heB]; exact hkindB
  have hl1 : ¬ n1 > e.platform.arrayLengthLimit := by rw [Launch.admits_arrayLengthLimit X.admits]; omega
  have hl2 : ¬ n2 > e.platform.arrayLengthLimit := by
    rw [Launch.admits_arrayLengthLimit X.admits]
    have : n2 ≤ n2 * componentBytes t := Nat.le_mul_of_pos_right _ hcb
    omega
  have hh1 : ¬ n1 * 4 > e.platform.maxHeapBytes := by rw [Launch.admits_maxHeapBytes X.admits]; omega
  have hh2 : ¬ n2 * componentBytes t > e.platform.maxHeapBytes := by rw [Launch.admits_maxHeapBytes X.admits]; omega
  have X₁ := X.noted hwarm₁
  have hs₁ : (T.setVm vm₁).heap.size = T.heap.size := rfl
  obtain ⟨L, hL, X₂⟩ := mn_stand X₁ cA cB' n1 n2 (defaultValue t) n1 (Nat.le_refl _)
  obtain ⟨g1, g2, g3, g4⟩ := mn_heap (T.setVm vm₁) cA cB' n1 n2 (defaultValue t) n1 (Nat.le_refl _)
  rw [hs₁] at g1 g2 g3 g4
  obtain ⟨t', a1, b1⟩ := kk _ L cA cB' hfcc hnB g2 g3 g1 g4 hL (mn_st (T.setVm vm₁) cA cB' n1 n2 (defaultValue t) n1) rfl X₂
  have r0 := X₁.roomAbove (a := 1) (b := n1) (by omega) (by omega)
  refine ⟨t', ?_, b1⟩
  jvm_step X.here [hexec, hdg, mn_cold (e := e) (s := T) (f := g) X.here.top hg₁ hready₁]
  refine mn_ready (T := T.setVm vm₁) (cA := cA) (cB := cB') (comp := comp) (ty := t) (n1 := n1) (n2 := n2) X.here.top hready₁ hstack h1 h2 p1 p2 z1 hkA₁ hkindA₁ hkB₁ hkindB₁ hdf hl1 hh1 hl2 hh2 r0 (fun j hj => ?_) (fun d' acts' => ?_)
  · obtain ⟨L9, -, X9⟩ := mn_stand X₁ cA cB' n1 n2 (defaultValue t) j (by omega)
    have hm : j * n2 + n2 ≤ n1 * n2 := by
      have := Nat.mul_le_mul_right n2 (show j + 1 ≤ n1 from hj)
      rwa [Nat.add_mul, Nat.one_mul] at this
    exact X9.roomAbove (a := 1) (b := n2) (by omega) (by omega)
  · have htop := X₂.here.top
    intro acts9
    simpa [jvm, htop] using a1
end WPT
