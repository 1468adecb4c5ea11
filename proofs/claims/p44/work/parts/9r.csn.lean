/-! the machine of the constructors is true to the JVM -/
def co_fv (G : ma_G) (σ : co_S) (k ci f : Nat) : Value :=
  if ma_fk ci f = 1 then .long 0 else if ma_fk ci f = 3 then (if (k, f) ∈ σ.2.2.1 then .ref (G.ad (ma_rf k f) 0) else .null) else if ma_fk ci f = 4 then (if (k, f) ∈ σ.2.2.1 then .ref (G.ad (co_dyn f) 0) else .null) else .int 0
def co_cell (G : ma_G) (σ : co_S) (H : Heap) (k : Nat) (r : Int) : Prop :=
  ((ma_ck k).1 ≤ 4 → H[G.ad k r]? = some (arrV (G.dA (ma_ck k).1) (ma_ck k).2.1 (fun j => ma_cv (ma_ck k).1 (co_mem σ k j)))) ∧
  ((ma_ck k).1 = 5 ∨ (ma_ck k).1 = 6 → H[G.ad k r]? = some (arrV (G.dA (ma_ck k).1) (ma_ck k).2.1 (fun j => .ref (G.ad (k + 1) j)))) ∧
  (∀ ci : Nat, (ma_ck k).1 = 10 + ci → t_OB (G.ad k r) (G.dC ci) (ma_N ci) (G.dI ci) H (fun f => co_fv G σ k ci f))
/-- the cells of an object -/
def co_val (k : Nat) (r : Int) : Prop := k < 69 ∧ 0 ≤ r ∧ r < ((ma_ck k).2.2 : Int)
def co_in (σ : co_S) (k : Nat) (r : Int) : Prop := co_val k r ∧ 2 ≤ k ∧ co_off k + r.toNat < σ.1
def co_H (G : ma_G) (σ : co_S) (H : Heap) : Prop := H.size = G.h0 + σ.1 ∧ ∀ (k : Nat) (r : Int), co_in σ k r → co_cell G σ H k r
def co_KX (G : ma_G) (U : State) : Prop := ma_KK G U ∧ ma_AD G ∧ G.h0 ≤ U.heap.size ∧ (∀ (k : Nat) (r : Int), co_val k r → 2 ≤ k → G.ad k r = G.h0 + (co_off k + r.toNat)) ∧ (∀ t, t ≤ 6 → U.vm.findClass (co_an t) = some (G.dA t)) ∧ (∀ w ∈ co_nests, va_Nw w U) ∧ (∀ t, t < 2 → (Cond.arrayOver (.array (ma_fat t))).before #[] U = true) ∧ (∀ k, k < 69 → G.lv k = true)
theorem co_vm {G : ma_G} {U : State} (K : co_KX G U) {k : Nat} {r : Int} (h : co_val k r) : ma_val G k r := ⟨Nat.lt_trans h.1 (by decide), h.2.1, h.2.2, K.2.2.2.2.2.2.2 k h.1⟩
def co_Cx (p : Program) (s : State) (m : MethodId) (args : Array Value) (c : Code) (G : ma_G) (cc : ByteArray) (o nL : Nat) : Prop :=
  p.tables.exec = Jvm.exec ∧ c.code = cc ∧ c.maxLocals = nL ∧ s.vm.findClass (ma_own o) = some m.cls ∧ (∀ w ∈ ma_WG, w.before args s = true) ∧ co_KX G s
def co_W (p : Program) (l : Launch) (e : Env) (R : Room) (s : State) (m : MethodId) (args : Array Value) (below : List Frame) (meth : Method) (c : Code) (Q : State → Prop) (G : ma_G) (nL n0 s0 pc : Nat) (ls st : List ma_V) (σ : co_S) : Prop :=
  ∀ (H : Heap) (locs : List Loc) (als : Array Slot) (vs : List Value), co_H G σ H → va_S (ma_A G) s.heap H locs → ma_RL G nL ls als → ma_RS G st vs → W p l e R s m args below meth c H locs (σ.1 - n0) (σ.2.1 - s0) Q (F0 m pc als vs)
theorem co_ok_in {σ : co_S} {k : Nat} {r : Int} (h : co_ok σ k r = true) : co_in σ k r := by
  unfold co_ok at h
  obtain ⟨h1, h2, h3, h4, h5⟩ := of_decide_eq_true h
  exact ⟨⟨h2, h3, h4⟩, h1, h5⟩
theorem co_i32_r {n : Int} (h : co_i32 n = true) : ma_r32 n := by
  unfold co_i32 at h
  exact @of_decide_eq_true (-2147483648 ≤ n ∧ n < 2147483648) _ h
section CPS
variable {p : Program} {l : Launch} {e : Env} {R : Room} {s : State} {m : MethodId} {args : Array Value} {below : List Frame} {meth : Method} {c : Code} {Q : State → Prop} {G : ma_G} {cc : ByteArray} {o nL n0 s0 pc pc' : Nat} {ls st : List ma_V} {σ : co_S}
theorem co_load {i : Nat} {v : ma_V} (hv : v ≠ ma_U) (hg : ls.getD i ma_U = v) (row : ∀ (w : Value), ma_Rv G v w → ∀ (H : Heap) (locs : List Loc) (als : Array Slot) (cells slots : Nat) (rest : List Value), als[i]? = some (.val w) → W p l e R s m args below meth c H locs cells slots Q (F0 m pc' als (w :: rest)) → W p l e R s m args below meth c H locs cells slots Q (F0 m pc als rest))
    (hk : co_W p l e R s m args below meth c Q G nL n0 s0 pc' ls (v :: st) σ) : co_W p l e R s m args below meth c Q G nL n0 s0 pc ls st σ := by
  intro H locs als vs hH hS hL hR
  obtain ⟨w, h1, h2⟩ := hL.get hg hv
  exact row w h2 _ _ _ _ _ _ h1 (hk H locs als _ hH hS hL ⟨h2, hR⟩)
theorem co_sto {i : Nat} {v : ma_V} (hi : i < ls.length) (row : ∀ (w : Value), ma_Rv G v w → ∀ (H : Heap) (locs : List Loc) (als : Array Slot) (cells slots : Nat) (rest : List Value) (lv : List (Nat × Value)), i < nL → lv_has als nL lv → (∀ als1, lv_has als1 nL ((i, w) :: lv.filter (fun q => !(q.1 == i) && !(q.1 + 1 == i && q.2.category == 2))) → W p l e R s m args below meth c H locs cells slots Q (F0 m pc' als1 rest)) → W p l e R s m args below meth c H locs cells slots Q (F0 m pc als (w :: rest)))
    (hk : co_W p l e R s m args below meth c Q G nL n0 s0 pc' (ma_st1 ls i v) st σ) : co_W p l e R s m args below meth c Q G nL n0 s0 pc ls (v :: st) σ := by
  intro H locs als vs hH hS hL hR
  obtain ⟨w, vs, rfl, hw, hR⟩ := ma_RS_cons hR
  obtain ⟨lv, h1, h2⟩ := ma_lvfull hL.2.1 hL.2.2.1
  exact row w hw _ _ _ _ _ _ lv (by rw [← hL.1]; exact hi) h1 (fun als1 h3 => hk H locs als1 vs hH hS (hL.st1 h2 rfl h3 hw) hR)
theorem co_psh {v : ma_V} {w : Value} (hw : ma_Rv G v w) (row : ∀ (H : Heap) (locs : List Loc) (als : Array Slot) (cells slots : Nat) (rest : List Value), W p l e R s m args below meth c H locs cells slots Q (F0 m pc' als (w :: rest)) → W p l e R s m args below meth c H locs cells slots Q (F0 m pc als rest))
    (hk : co_W p l e R s m args below meth c Q G nL n0 s0 pc' ls (v :: st) σ) : co_W p l e R s m args below meth c Q G nL n0 s0 pc ls st σ := by
  intro H locs als vs hH hS hL hR
  exact row _ _ _ _ _ _ (hk H locs als _ hH hS hL ⟨hw, hR⟩)
theorem co_bin {f : Int → Int → Int} {F : Int32 → Int32 → Int32} {x y : Int} (hF : ∀ a b : Int32, a.toInt = x → b.toInt = y → (F a b).toInt = f x y) (row : ∀ (a b : Int32), a.toInt = x → b.toInt = y → ∀ (H : Heap) (locs : List Loc) (als : Array Slot) (cells slots : Nat) (rest : List Value), W p l e R s m args below meth c H locs cells slots Q (F0 m pc' als (.int (F a b) :: rest)) → W p l e R s m args below meth c H locs cells slots Q (F0 m pc als (.int b :: .int a :: rest)))
    (hk : co_W p l e R s m args below meth c Q G nL n0 s0 pc' ls (ma_I (f x y) :: st) σ) : co_W p l e R s m args below meth c Q G nL n0 s0 pc ls (ma_I y :: ma_I x :: st) σ := by
  intro H locs als vs hH hS hL hR
  obtain ⟨_, vs, rfl, ⟨b, rfl, hb⟩, hR1⟩ := ma_RS_cons hR
  obtain ⟨_, vs, rfl, ⟨a, rfl, ha⟩, hR2⟩ := ma_RS_cons hR1
  exact row a b ha hb _ _ _ _ _ _ (hk H locs als _ hH hS hL ⟨⟨_, rfl, hF a b ha hb⟩, hR2⟩)
/-- a copy of what lies on the stack -/
theorem co_dp1 {v : ma_V} (hv : v ≠ ma_U) (hc : ma_c2 v = false) (hx : p.tables.exec = Jvm.exec) (hb : c.code = cc) (hd : decode cc pc = .ok (.dup, 1)) (hk : co_W p l e R s m args below meth c Q G nL n0 s0 (pc + 1) ls (v :: v :: st) σ) : co_W p l e R s m args below meth c Q G nL n0 s0 pc ls (v :: st) σ := by
  intro H locs als vs hH hS hL hR
  obtain ⟨w, vs, rfl, hw, hR⟩ := ma_RS_cons hR
  exact lv_dup hx hb hd (ma_Rv_c1 hw hv hc) (hk H locs als _ hH hS hL ⟨hw, hw, hR⟩)
theorem co_dp2 {v u : ma_V} (hv : v ≠ ma_U) (hc : ma_c2 v = false) (hu : u ≠ ma_U) (hcu : ma_c2 u = false) (hx : p.tables.exec = Jvm.exec) (hb : c.code = cc) (hd : decode cc pc = .ok (.dup2, 1)) (hk : co_W p l e R s m args below meth c Q G nL n0 s0 (pc + 1) ls (v :: u :: v :: u :: st) σ) : co_W p l e R s m args below meth c Q G nL n0 s0 pc ls (v :: u :: st) σ := by
  intro H locs als vs hH hS hL hR
  obtain ⟨w, vs, rfl, hw, hR⟩ := ma_RS_cons hR
  obtain ⟨w2, vs, rfl, hw2, hR⟩ := ma_RS_cons hR
  exact lv_dup2_11 hx hb hd (ma_Rv_c1 hw hv hc) (ma_Rv_c1 hw2 hu hcu) (hk H locs als _ hH hS hL ⟨hw, hw2, hw, hw2, hR⟩)
theorem co_inc {i : Nat} {n9 n : Int} (hx : p.tables.exec = Jvm.exec) (hb : c.code = cc) (hd : decode cc pc = .ok (.iinc i n9, 3)) (hg : ls.getD i ma_U = ma_I n) (hr : ma_r32 (n + n9)) (hk : co_W p l e R s m args below meth c Q G nL n0 s0 (pc + 3) (ma_st1 ls i (ma_I (n + n9))) st σ) : co_W p l e R s m args below meth c Q G nL n0 s0 pc ls st σ := by
  intro H locs als vs hH hS hL hR
  obtain ⟨w, h1, x, rfl, hx9⟩ := hL.get hg ma_neU_I
  obtain ⟨lv, h3, h4⟩ := ma_lvfull hL.2.1 hL.2.2.1
  obtain ⟨kk, hkk, e⟩ := List.getElem_of_mem (h4 i _ h1)
  refine lv_iinc hx hb hd h3 (k := kk) (List.getElem?_eq_some_iff.mpr ⟨hkk, e⟩) rfl (by rw [← hL.2.1]; exact lv_lt h1) rfl (fun als1 h5 => ?_)
  have e9 : (x + Int32.ofInt n9).toInt = ma_wI (x.toInt + n9) := by simp [ma_wI]
  exact hk H locs als1 vs hH hS (hL.st1 h4 rfl h5 ⟨_, rfl, by rw [e9, hx9, ma_wI_id hr]⟩) hR
theorem co_goto {off : Int} (ht : 0 ≤ (pc : Int) + off) (hx : p.tables.exec = Jvm.exec) (hb : c.code = cc) (hd : decode cc pc = .ok (.goto off, 3)) (hk : co_W p l e R s m args below meth c Q G nL n0 s0 (ma_tgt pc off) ls st σ) : co_W p l e R s m args below meth c Q G nL n0 s0 pc ls st σ := by
  intro H locs als vs hH hS hL hR
  exact lv_goto hx hb hd (by show (pc : Int) + off = (((pc : Int) + off).toNat : Int); omega) (hk H locs als vs hH hS hL hR)
theorem co_ge {off : Int} {n n2 : Int} (ht : 0 ≤ (pc : Int) + off) (hx : p.tables.exec = Jvm.exec) (hb : c.code = cc) (hd : decode cc pc = .ok (.if_icmp .ge off, 3)) (hj : n2 ≤ n → co_W p l e R s m args below meth c Q G nL n0 s0 (ma_tgt pc off) ls st σ) (hk : ¬ n2 ≤ n → co_W p l e R s m args below meth c Q G nL n0 s0 (pc + 3) ls st σ) : co_W p l e R s m args below meth c Q G nL n0 s0 pc ls (ma_I n2 :: ma_I n :: st) σ := by
  intro H locs als vs hH hS hL hR
  obtain ⟨_, vs, rfl, ⟨y, rfl, hy⟩, hR0⟩ := ma_RS_cons hR
  obtain ⟨_, vs, rfl, ⟨x, rfl, hx9⟩, hR1⟩ := ma_RS_cons hR0
  have et : (pc : Int) + off = (ma_tgt pc off : Int) := by show (pc : Int) + off = (((pc : Int) + off).toNat : Int); omega
  exact lv_icmp_ge hx hb hd et (fun z => hj (by simpa only [Int32.lt_iff_toInt_lt, Int32.le_iff_toInt_le, hx9, hy, Int.not_lt] using z) H locs als vs hH hS hL hR1) (fun z => hk (by simpa only [Int32.lt_iff_toInt_lt, Int32.le_iff_toInt_le, hx9, hy, Int.not_lt, Int.not_le, Classical.not_not] using z) H locs als vs hH hS hL hR1)
end CPS
theorem co_arr {cI : ClassId} {N : Nat} {f g : Nat → Value} (h : ∀ j, j < N → f j = g j) : arrV cI N f = arrV cI N g := by
  unfold arrV
  congr 1
  apply Array.ext
  · simp
  · intro i h1 h2
    simp at h1 h2 ⊢
    exact h i h1
theorem co_in_ad {G : ma_G} {U : State} (K : co_KX G U) {k : Nat} {r : Int} (hv : co_val k r) (h2 : 2 ≤ k) : G.ad k r = G.h0 + (co_off k + r.toNat) := K.2.2.2.1 k r hv h2
/-- one cell changes -/
theorem co_keep {G : ma_G} {U : State} {σ σ' : co_S} {H H1 : Heap} {k0 : Nat} {r0 : Int} (K : co_KX G U) (h : co_H G σ H) (hv0 : co_in σ k0 r0) (hn : σ'.1 = σ.1) (hz : H1.size = H.size) (oq : ∀ q : Nat, q ≠ G.ad k0 r0 → H1[q]? = H[q]?)
    (hm : ∀ (k : Nat) (i : Int), k ≠ k0 → co_mem σ' k i = co_mem σ k i) (hp : ∀ k f : Nat, k ≠ k0 → ((k, f) ∈ σ'.2.2.1 ↔ (k, f) ∈ σ.2.2.1)) (hr : (ma_ck k0).2.2 = 1) (h0 : co_cell G σ' H1 k0 r0) : co_H G σ' H1 := by
  refine ⟨by rw [hz, hn]; exact h.1, fun k r hv => ?_⟩
  have hvσ : co_in σ k r := ⟨hv.1, hv.2.1, by rw [← hn]; exact hv.2.2⟩
  by_cases hkr : k = k0
  · subst hkr
    have e : r = r0 := by
      have := hv.1.2; have := hv0.1.2; omega
    rw [e]; exact h0
  · have hne : G.ad k r ≠ G.ad k0 r0 := fun z => hkr (K.2.1.1 k k0 r r0 (co_vm K hv.1) (co_vm K hv0.1) z).1
    have e1 := oq _ hne
    obtain ⟨h1, h2, h3⟩ := h.2 k r hvσ
    have e4 : ∀ ci, (fun f => co_fv G σ' k ci f) = (fun f => co_fv G σ k ci f) := fun ci => by
      funext f
      unfold co_fv
      simp only [hp k f hkr]
    refine ⟨fun z => by rw [e1]; simp only [hm k _ hkr]; exact h1 z, fun z => by rw [e1]; exact h2 z, fun ci z => ?_⟩
    rw [e4]
    exact (h3 ci z).kept e1
/-- a cell is made -/
theorem co_grow {G : ma_G} {U : State} {σ σ' : co_S} {H H1 : Heap} {j : Nat} (K : co_KX G U) (h : co_H G σ H) (hn : σ'.1 = σ.1 + j) (hz : H1.size = H.size + j) (oq : ∀ q : Nat, q < H.size → H1[q]? = H[q]?) (hr : σ'.2.2 = σ.2.2)
    (h0 : ∀ (k : Nat) (r : Int), co_val k r → 2 ≤ k → σ.1 ≤ co_off k + r.toNat → co_off k + r.toNat < σ.1 + j → co_cell G σ' H1 k r) : co_H G σ' H1 := by
  refine ⟨by rw [hz, hn, h.1, Nat.add_assoc], fun k r hv => ?_⟩
  by_cases hlt : co_off k + r.toNat < σ.1
  · have ead := co_in_ad K hv.1 hv.2.1
    have hlt2 : G.ad k r < H.size := by rw [ead, h.1]; omega
    have e1 := oq _ hlt2
    obtain ⟨h1, h2, h3⟩ := h.2 k r ⟨hv.1, hv.2.1, hlt⟩
    have em : ∀ i, co_mem σ' k i = co_mem σ k i := fun i => by unfold co_mem; rw [hr]
    have e4 : ∀ ci, (fun f => co_fv G σ' k ci f) = (fun f => co_fv G σ k ci f) := fun ci => by
      funext f
      unfold co_fv
      simp only [hr]
    refine ⟨fun z => by rw [e1]; simp only [em]; exact h1 z, fun z => by rw [e1]; exact h2 z, fun ci z => ?_⟩
    rw [e4]
    exact (h3 ci z).kept e1
  · exact h0 k r hv.1 hv.2.1 (by omega) (by have := hv.2.2; rw [hn] at this; exact this)
theorem co_an_inj {G : ma_G} {U : State} (K : co_KX G U) {k k' : Nat} {r r' : Int} (hv : co_val k r) (h2 : 2 ≤ k) (hv' : co_val k' r') (h2' : 2 ≤ k') (h : co_off k + r.toNat = co_off k' + r'.toNat) : k = k' ∧ r = r' :=
  K.2.1.1 k k' r r' (co_vm K hv) (co_vm K hv') (by rw [co_in_ad K hv h2, co_in_ad K hv' h2', h])
theorem co_an_le (k : Nat) : (ma_ck k).2.1 < 5000 := ma_ck_lt k
theorem co_dv : ∀ t, t ≤ 4 → defaultValue (ma_fat t) = ma_cv t 0 := by
  intro t ht
  match t, ht with
  | 0, _ => rfl
  | 1, _ => rfl
  | 2, _ => rfl
  | 3, _ => rfl
  | 4, _ => rfl
theorem co_at_ty (t : ArrayType) (h : co_at t ≤ 4) : newarray.typeOf t = ma_fat (co_at t) := by
  cases t <;> first | rfl | exact absurd h (by decide)
theorem co_ac_w (t : Nat) (h : t ≤ 4) : Cond.arrayClass (ma_fat t) ∈ ma_WG := co_ac_in _ (List.mem_map.mpr ⟨t, by
  match t, h with
  | 0, _ => decide
  | 1, _ => decide
  | 2, _ => decide
  | 3, _ => decide
  | 4, _ => decide, rfl⟩)
theorem co_cb (t : Nat) (h : t ≤ 4) : componentBytes (ma_fat t) ≤ 8 ∧ 1 ≤ componentBytes (ma_fat t) ∧ fits (ma_fat t) (defaultValue (ma_fat t)) = true := by
  match t, h with
  | 0, _ => decide
  | 1, _ => decide
  | 2, _ => decide
  | 3, _ => decide
  | 4, _ => decide
theorem co_zero_mem {σ : co_S} {k : Nat} (h : co_zero σ k = true) (i : Int) : co_mem σ k i = 0 := by
  have key : ∀ l : List Int, l.all (fun v => decide (v = 0)) = true → l.getD i.toNat 0 = 0 := by
    intro l hl
    rw [List.getD_eq_getElem?_getD]
    cases hq : l[i.toNat]? with
    | none => rfl
    | some x => exact of_decide_eq_true (List.all_eq_true.mp hl x (List.mem_of_getElem? hq))
  unfold co_zero at h
  unfold co_mem
  by_cases e1 : k = 109
  · subst e1
    rw [if_pos rfl]
    have h : (σ.2.2.2.1.all (fun v => decide (v = 0)) && σ.2.2.2.2.all (fun v => decide (v = 0))) = true := h
    exact key _ (Bool.and_eq_true _ _ ▸ h).1
  · rw [if_neg e1]
    by_cases e2 : k = 110
    · subst e2
      rw [if_pos rfl]
      have h : (σ.2.2.2.1.all (fun v => decide (v = 0)) && σ.2.2.2.2.all (fun v => decide (v = 0))) = true := h
      exact key _ (Bool.and_eq_true _ _ ▸ h).2
    · rw [if_neg e2]
theorem co_n32 {x : Int32} {n : Int} (h : x.toInt = n) (h0 : 0 ≤ n) : ¬ x < 0 ∧ x.toNatClampNeg = n.toNat := by
  refine ⟨fun z => ?_, by rw [← h]; rfl⟩
  rw [Int32.lt_iff_toInt_lt, h] at z
  have : (0 : Int32).toInt = 0 := rfl
  omega
section CPM
variable {p : Program} {l : Launch} {e : Env} {R : Room} {s : State} {m : MethodId} {args : Array Value} {below : List Frame} {meth : Method} {c : Code} {Q : State → Prop} {G : ma_G} {cc : ByteArray} {o nL n0 s0 pc pc' : Nat} {ls st : List ma_V} {σ : co_S}
theorem co_newarr {t : ArrayType} {n : Int} (C : co_Cx p s m args c G cc o nL) (hd : decode cc pc = .ok (.newarray t, 2)) (hk0 : co_off (co_kof σ.1) = σ.1) (h2 : 2 ≤ co_kof σ.1 ∧ co_kof σ.1 < 69) (hck : ma_ck (co_kof σ.1) = (co_at t, n.toNat, 1)) (hz : co_zero σ (co_kof σ.1) = true) (h0 : 0 ≤ n ∧ n.toNat < 10000) (hat : co_at t ≤ 4)
    (hn : n0 ≤ σ.1 ∧ s0 ≤ σ.2.1) (hR : σ.1 + 1 - n0 ≤ R.cells ∧ σ.2.1 + n.toNat - s0 ≤ R.slots) (hk : co_W p l e R s m args below meth c Q G nL n0 s0 (pc + 2) ls (ma_Rf (co_kof σ.1) 0 :: st) (co_new σ n.toNat)) : co_W p l e R s m args below meth c Q G nL n0 s0 pc ls (ma_I n :: st) σ := by
  intro H locs als vs hH hS hL hRS
  obtain ⟨_, vs, rfl, ⟨x, rfl, hx⟩, hR1⟩ := ma_RS_cons hRS
  obtain ⟨g1, g2⟩ := co_n32 hx h0.1
  have K := C.2.2.2.2.2
  have hty := co_at_ty t hat
  obtain ⟨b1, b2, b3⟩ := co_cb (co_at t) hat
  generalize hkk : co_kof σ.1 = k at hk0 h2 hck hz hk
  have hv : co_val k 0 := ⟨h2.2, Int.le_refl _, by rw [hck]; show (0 : Int) < ((1 : Nat) : Int); decide⟩
  have ead := co_in_ad K hv h2.1
  have hsz : H.size = G.ad k 0 := by rw [ead, hH.1, hk0]; rfl
  refine va_newaK (g := F0 m pc als (.int x :: vs)) (N := n.toNat) C.1 C.2.1 (by rw [hty]; exact C.2.2.2.2.1 _ (co_ac_w _ hat)) rfl hd rfl g1 g2 (by rw [hty]; have := Nat.mul_le_mul (Nat.le_of_lt h0.2) b1; omega) (by omega) (by omega) hsz (fun H' cA e1 e2 e3 e4 e5 => ?_)
  rw [hty] at e1 e5
  have ecA : cA = G.dA (co_at t) := Option.some.inj (e5.symm.trans (K.2.2.2.2.1 _ (by omega)))
  subst ecA
  rw [show σ.1 - n0 + 1 = (co_new σ n.toNat).1 - n0 by show _ = σ.1 + 1 - n0; omega, show σ.2.1 - s0 + n.toNat = (co_new σ n.toNat).2.1 - s0 by show _ = σ.2.1 + n.toNat - s0; omega]
  refine hk H' locs als _ ?_ ?_ hL ⟨⟨rfl, co_vm C.2.2.2.2.2 hv⟩, hR1⟩
  · refine co_grow (j := 1) K hH rfl (by rw [e2, hsz]) (fun q hq => e3 q (by rw [← hsz]; exact hq)) rfl (fun k' r' hv' h2' z1 z2 => ?_)
    obtain ⟨rfl, rfl⟩ := co_an_inj K hv' h2' hv h2.1 (by rw [hk0]; simp; omega)
    refine ⟨fun _ => ?_, fun z => by rw [hck] at z; simp only at z; omega, fun ci z => by rw [hck] at z; simp only at z; omega⟩
    rw [e1, hck]
    show some (arrV (G.dA (co_at t)) n.toNat (fun _ => defaultValue (ma_fat (co_at t)))) = _
    rw [co_dv _ hat]
    congr 2
    funext j
    rw [show co_mem (co_new σ n.toNat) k' (j : Int) = co_mem σ k' j from rfl, co_zero_mem hz]
  · exact ⟨Nat.le_trans hS.1 (by omega), fun q q1 q2 => (e3 q (by have := hS.1; omega)).trans (hS.2.1 q q1 q2), hS.2.2⟩
theorem co_ini_w (ci : Nat) (h : ci < 11) : Cond.initialized (ma_C ci) ∈ ma_WG := co_ci_in _ (List.mem_map.mpr ⟨ci, List.mem_range.mpr h, rfl⟩)
theorem co_ins_w (ci : Nat) (h : ci < 11) : Cond.instantiable (ma_C ci) (ma_N ci) ∈ ma_WG := co_cn_in _ (List.mem_map.mpr ⟨ci, List.mem_range.mpr h, rfl⟩)
theorem co_fk_null : ∀ ci, ci < 11 → ∀ k, k < ma_N ci → defaultValue (ma_fty ci k) = (if ma_fk ci k = 1 then .long 0 else if ma_fk ci k = 3 then .null else if ma_fk ci k = 4 then .null else .int 0) := by decide +kernel
theorem co_newobj {i ci : Nat} (C : co_Cx p s m args c G cc o nL) (hd : decode cc pc = .ok (.new i, 3)) (hcl : (o, i, ci) ∈ co_cl) (hci : ci < 11) (hk0 : co_off (co_kof σ.1) = σ.1) (h2 : 2 ≤ co_kof σ.1 ∧ co_kof σ.1 < 69) (hck : (ma_ck (co_kof σ.1)).1 = 10 + ci ∧ (ma_ck (co_kof σ.1)).2.2 = 1) (hP : ∀ f, (co_kof σ.1, f) ∉ σ.2.2.1)
    (hn : n0 ≤ σ.1 ∧ s0 ≤ σ.2.1) (hR : σ.1 + 1 - n0 ≤ R.cells ∧ σ.2.1 + ma_N ci - s0 ≤ R.slots) (hk : co_W p l e R s m args below meth c Q G nL n0 s0 (pc + 3) ls (ma_Rf (co_kof σ.1) 0 :: st) (co_new σ (ma_N ci))) : co_W p l e R s m args below meth c Q G nL n0 s0 pc ls st σ := by
  intro H locs als vs hH hS hL hRS
  have K := C.2.2.2.2.2
  generalize hkk : co_kof σ.1 = k at hk0 h2 hck hP hk
  have hv : co_val k 0 := ⟨h2.2, Int.le_refl _, by rw [hck.2]; decide⟩
  have ead := co_in_ad K hv h2.1
  have hsz : H.size = G.ad k 0 := by rw [ead, hH.1, hk0]; rfl
  have hKn := K.1.2.2 ci hci
  have hw : Cond.classLink (ma_own o) i (ma_C ci) ∈ ma_WG := co_cl_in _ (List.mem_map.mpr ⟨_, hcl, rfl⟩)
  refine W.newcK (g := F0 m pc als vs) C.1 C.2.1 C.2.2.2.1 (C.2.2.2.2.1 _ hw) (C.2.2.2.2.1 _ (co_ins_w ci hci)) (C.2.2.2.2.1 _ (co_ini_w ci hci)) rfl hd (by omega) (by omega) hKn.2.1 hsz (fun H1 kC hkC e1 z1 o1 => ?_)
  rw [show σ.1 - n0 + 1 = (co_new σ (ma_N ci)).1 - n0 by show _ = σ.1 + 1 - n0; omega, show σ.2.1 - s0 + ma_N ci = (co_new σ (ma_N ci)).2.1 - s0 by show _ = σ.2.1 + ma_N ci - s0; omega]
  refine hk H1 locs als _ ?_ ?_ hL ⟨⟨rfl, co_vm C.2.2.2.2.2 hv⟩, hRS⟩
  · refine co_grow (j := 1) K hH rfl (by rw [z1, hsz]) (fun q hq => o1 q (by rw [← hsz]; exact hq)) rfl (fun k' r' hv' h2' y1 y2 => ?_)
    obtain ⟨rfl, rfl⟩ := co_an_inj K hv' h2' hv h2.1 (by rw [hk0]; simp; omega)
    refine ⟨fun z => by omega, fun z => by omega, fun ci' z => ?_⟩
    have hcc : ci' = ci := by omega
    subst hcc
    refine (u_born (ma_fty ci') C.2.2.2.2.1 (ma_u_in ci' hci) hKn hkC e1 (ma_ty_ok ci' hci)).to (fun j hj => ?_)
    rw [co_fk_null ci' hci j hj]
    unfold co_fv
    rw [show (co_new σ (ma_N ci')).2.2 = σ.2.2 from rfl, if_neg (hP j), if_neg (hP j)]
  · exact ⟨Nat.le_trans hS.1 (by omega), fun q q1 q2 => (o1 q (by have := hS.1; omega)).trans (hS.2.1 q q1 q2), hS.2.2⟩
theorem co_ao_ok (U : State) (a : Array Value) (K : co_KX G U) (t : Nat) (h : t < 2) : (Cond.arrayOver (.array (ma_fat t))).before a U = true := over_moved (Vm.Alike.refl _) (K.2.2.2.2.2.2.1 t h)
theorem co_multi {i p9 d9 : Nat} {n1 n2 : Int} (C : co_Cx p s m args c G cc o nL) (hd : decode cc pc = .ok (.multianewarray i 2, 4)) (hal : (o, i, p9) ∈ co_al) (hp9 : p9 = 5 + d9 ∧ d9 < 2) (hk0 : co_off (co_kof σ.1) = σ.1 ∧ co_off (co_kof σ.1 + 1) = σ.1 + 1) (h2 : 2 ≤ co_kof σ.1 ∧ co_kof σ.1 + 1 < 69) (hck : ma_ck (co_kof σ.1) = (p9, n1.toNat, 1)) (hck1 : ma_ck (co_kof σ.1 + 1) = (d9, n2.toNat, n1.toNat)) (h0 : 0 < n1 ∧ 0 ≤ n2 ∧ n1.toNat < 10000 ∧ n2.toNat < 10000)
    (hn : n0 ≤ σ.1 ∧ s0 ≤ σ.2.1) (hR : σ.1 + 1 + n1.toNat - n0 ≤ R.cells ∧ σ.2.1 + n1.toNat + n1.toNat * n2.toNat - s0 ≤ R.slots) (hk : co_W p l e R s m args below meth c Q G nL n0 s0 (pc + 4) ls (ma_Rf (co_kof σ.1) 0 :: st) (σ.1 + 1 + n1.toNat, σ.2.1 + n1.toNat + n1.toNat * n2.toNat, σ.2.2)) : co_W p l e R s m args below meth c Q G nL n0 s0 pc ls (ma_I n2 :: ma_I n1 :: st) σ := by
  intro H locs als vs hH hS hL hRS
  obtain ⟨_, vs, rfl, ⟨y, rfl, hy⟩, hR1⟩ := ma_RS_cons hRS
  obtain ⟨_, vs, rfl, ⟨x, rfl, hx⟩, hR2⟩ := ma_RS_cons hR1
  obtain ⟨g1, g2⟩ := co_n32 hx (Int.le_of_lt h0.1)
  obtain ⟨g3, g4⟩ := co_n32 hy h0.2.1
  have K := C.2.2.2.2.2
  generalize hkk : co_kof σ.1 = k at hk0 h2 hck hck1 hk
  have hv : co_val k 0 := ⟨by omega, Int.le_refl _, by rw [hck]; show (0 : Int) < ((1 : Nat) : Int); decide⟩
  have hvj : ∀ j : Nat, j < n1.toNat → co_val (k + 1) j := fun j hj => ⟨by omega, by omega, by rw [hck1]; show (j : Int) < (n1.toNat : Int); omega⟩
  have ead := co_in_ad K hv h2.1
  have hsz : H.size = G.ad k 0 := by rw [ead, hH.1, hk0.1]; rfl
  have eadj : ∀ j : Nat, j < n1.toNat → G.ad (k + 1) j = G.ad k 0 + 1 + j := fun j hj => by
    rw [co_in_ad K (hvj j hj) (by omega), ead, hk0.1, hk0.2]; simp; omega
  obtain ⟨b1, b2, b3⟩ := co_cb d9 (by omega)
  have hw : Cond.classLink (ma_own o) i (co_an p9) ∈ ma_WG := co_al_in _ (List.mem_map.mpr ⟨_, hal, rfl⟩)
  have hC : co_an p9 = "[" ++ (FieldType.array (ma_fat d9)).toString := by
    rw [hp9.1]
    match d9, hp9.2 with
    | 0, _ => rfl
    | 1, _ => rfl
  refine mn_row (g := F0 m pc als (.int y :: .int x :: vs)) (t := ma_fat d9) (n1 := n1.toNat) (n2 := n2.toNat) C.1 C.2.1 C.2.2.2.1 hC (C.2.2.2.2.1 _ hw) (co_ao_ok s args K d9 hp9.2) (C.2.2.2.2.1 _ (co_ac_w d9 (by omega))) b3 b2 rfl hd rfl g2 g4 g1 g3 (fun z => ?_) (by omega) (by have := Nat.mul_le_mul (Nat.le_of_lt h0.2.2.2) b1; omega) (by omega) (by omega) hsz (fun H' L cA cB f1 f2 e1 e2 e3 e4 e5 => ?_)
  · rw [z] at hx
    have : (0 : Int32).toInt = 0 := rfl
    omega
  have ecA : cA = G.dA p9 := Option.some.inj (f1.symm.trans (K.2.2.2.2.1 _ (by omega)))
  have ecB : cB = G.dA d9 := Option.some.inj (f2.symm.trans (K.2.2.2.2.1 _ (by omega)))
  subst ecA; subst ecB
  rw [show σ.1 - n0 + 1 + n1.toNat = (σ.1 + 1 + n1.toNat) - n0 by omega, show σ.2.1 - s0 + n1.toNat + n1.toNat * n2.toNat = (σ.2.1 + n1.toNat + n1.toNat * n2.toNat) - s0 by omega]
  refine hk H' (locs ++ L) als _ ?_ ?_ hL ⟨⟨rfl, co_vm C.2.2.2.2.2 hv⟩, hR2⟩
  · refine co_grow (j := 1 + n1.toNat) K hH (by show σ.1 + 1 + n1.toNat = _; omega) (by rw [e3, hsz]; omega) (fun q hq => e4 q (by rw [← hsz]; exact hq)) rfl (fun k' r' hv' h2' y1 y2 => ?_)
    by_cases hq : co_off k' + r'.toNat = σ.1
    · obtain ⟨rfl, rfl⟩ := co_an_inj K hv' h2' hv h2.1 (by rw [hk0.1]; simp; omega)
      refine ⟨fun z => by rw [hck] at z; simp only at z; omega, fun _ => ?_, fun ci z => by rw [hck] at z; simp only at z; omega⟩
      rw [e1, hck]
      show some (arrV (G.dA p9) n1.toNat _) = some (arrV (G.dA p9) n1.toNat _)
      congr 1
      refine co_arr (fun j hj => ?_)
      rw [if_pos hj, eadj j hj]
    · obtain ⟨j, hj, ej⟩ : ∃ j : Nat, j < n1.toNat ∧ co_off k' + r'.toNat = σ.1 + 1 + j := ⟨co_off k' + r'.toNat - (σ.1 + 1), by omega, by omega⟩
      obtain ⟨rfl, rfl⟩ := co_an_inj K hv' h2' (hvj j hj) (by omega) (by rw [hk0.2, ej]; simp)
      refine ⟨fun _ => ?_, fun z => by rw [hck1] at z; simp only at z; omega, fun ci z => by rw [hck1] at z; simp only at z; omega⟩
      rw [eadj j hj, e2 j hj, hck1]
      show some (arrV (G.dA d9) n2.toNat (fun _ => defaultValue (ma_fat d9))) = _
      rw [co_dv _ (by omega)]
      congr 2
      funext j
      rw [show co_mem (σ.1 + 1 + n1.toNat, σ.2.1 + n1.toNat + n1.toNat * n2.toNat, σ.2.2) (k + 1) (j : Int) = 0 by unfold co_mem; rw [if_neg (by omega), if_neg (by omega)]]
  · refine ⟨Nat.le_trans hS.1 (by omega), fun q q1 q2 => (e4 q (by have := hS.1; omega)).trans (hS.2.1 q q1 q2), fun q hq => ?_⟩
    rcases List.mem_append.mp hq with z | z
    · exact hS.2.2 q z
    · show G.h0 ≤ q.base
      rw [e5 q z, ead]; omega
end CPM
def co_isr : FieldType → Bool
  | .object _ => true
  | .array _ => true
  | _ => false
theorem co_isr_ok : ∀ ci, ci < 11 → ∀ k, k < ma_N ci → (ma_fk ci k = 3 ∨ ma_fk ci k = 4) → co_isr (ma_fty ci k) = true := by decide +kernel
theorem co_isr_v {t : FieldType} (h : co_isr t = true) (a : Addr) : narrow t (.ref a) = .ref a ∧ fits t (.ref a) = true := by
  cases t <;> first | exact ⟨rfl, rfl⟩ | exact absurd h (by decide)
theorem co_own_ok : ∀ ci, ci < 11 → ma_own ci = ma_C ci := by decide +kernel
section CPF
variable {p : Program} {l : Launch} {e : Env} {R : Room} {s : State} {m : MethodId} {args : Array Value} {below : List Frame} {meth : Method} {c : Code} {Q : State → Prop} {G : ma_G} {cc : ByteArray} {o nL n0 s0 pc pc' : Nat} {ls st : List ma_V} {σ : co_S}
variable {H : Heap} {locs : List Loc} {als : Array Slot} {cells slots : Nat} {rest : List Value}
theorem co_getF (C : co_Cx p s m args c G cc o nL) {kk : Nat} {r : Int} {ci f i : Nat} (hH : co_H G σ H) (hv : co_in σ kk r) (hc : (ma_ck kk).1 = 10 + ci) (hci : ci < 11) (hf : f < ma_N ci) (hl : (o, i, ci, f) ∈ ma_fl) (hd : decode cc pc = .ok (.getfield i, 3))
    (hk : W p l e R s m args below meth c H locs cells slots Q (F0 m (pc + 3) als (co_fv G σ kk ci f :: rest))) : W p l e R s m args below meth c H locs cells slots Q (F0 m pc als (.ref (G.ad kk r) :: rest)) := by
  obtain ⟨hx, hb, hml, ho, hts, K⟩ := C
  have hob := (hH.2 kk r hv).2.2 ci hc
  have hKn := K.1.2.2 ci hci
  refine va_get (D := (fun _ => G.dC ci, fun _ => G.dI ci)) (cl := [(ma_C ci, ma_T ci, ma_N ci)]) (tys := []) (ws := [(G.ad kk r, .inr (0, (List.range (ma_N ci)).map (fun f => co_fv G σ kk ci f)))]) (ci := 0) (own := ma_own o) (ref := ma_C ci) (C := ma_C ci) (T := ma_T ci) (N := ma_N ci) (index := i) hx hb hts (ma_u_in ci hci) ho ?_ ?_ 0 rfl rfl f hf (hts _ (ma_fl_word hl)) ?_ ?_ hd hk
  · refine ⟨fun j q hq => ?_, fun j q hq => by simp at hq⟩
    have hz : j < 1 := (List.getElem?_eq_some_iff.mp hq).1
    have hj : j = 0 := by omega
    subst hj
    cases hq
    exact hKn
  · intro j q hq
    have hz : j < 1 := (List.getElem?_eq_some_iff.mp hq).1
    have hj : j = 0 := by omega
    subst hj
    cases hq
    refine ⟨_, rfl, hob.to fun j hj => ?_⟩
    simp [vp_V, List.getD_eq_getElem?_getD, hj]
  · intro x hx2
    rw [ma_decl_ok ci hci f hf] at hx2
    exact hx2
  · simp [hf]
/-- a field is put: what the object's cell then holds -/
theorem co_putF (C : co_Cx p s m args c G cc o nL) {kk : Nat} {r : Int} {ci f i : Nat} {w : Value} {σ' : co_S} (hH : co_H G σ H) (hS : va_S (ma_A G) s.heap H locs) (hv : co_in σ kk r) (hc : (ma_ck kk).1 = 10 + ci) (h1 : (ma_ck kk).2.2 = 1) (hci : ci < 11) (hf : f < ma_N ci) (hl : (o, i, ci, f) ∈ ma_fl) (ho9 : o = ci) (hin : meth.name = "<init>") (hd : decode cc pc = .ok (.putfield i, 3))
    (hn : narrow (ma_fty ci f) w = w) (hfit : fits (ma_fty ci f) w = true) (en : σ'.1 = σ.1) (em : ∀ (k : Nat) (i : Int), k ≠ kk → co_mem σ' k i = co_mem σ k i) (ep : ∀ k f : Nat, k ≠ kk → ((k, f) ∈ σ'.2.2.1 ↔ (k, f) ∈ σ.2.2.1)) (ev : ∀ j, j < ma_N ci → updV (fun f => co_fv G σ kk ci f) f w j = co_fv G σ' kk ci j)
    (hk : ∀ (H1 : Heap) (locs1 : List Loc), co_H G σ' H1 → va_S (ma_A G) s.heap H1 locs1 → W p l e R s m args below meth c H1 locs1 cells slots Q (F0 m (pc + 3) als rest)) : W p l e R s m args below meth c H locs cells slots Q (F0 m pc als (w :: .ref (G.ad kk r) :: rest)) := by
  obtain ⟨hx, hb, hml, ho, hts, K⟩ := C
  have hob := (hH.2 kk r hv).2.2 ci hc
  have hKn := K.1.2.2 ci hci
  have hap := va_apart (own := ma_own o) (D := (fun _ => G.dC ci, fun _ => G.dI ci)) (cl := [(ma_C ci, ma_T ci, ma_N ci)]) (tys := []) (ci := 0) hts (ma_u_in ci hci) (ma_fty ci) (ma_ty_ok ci hci) (ma_nm_ok ci hci) (s := s) ⟨fun j q hq => by
    have hz : j < 1 := (List.getElem?_eq_some_iff.mp hq).1
    have hj : j = 0 := by omega
    subst hj
    cases hq
    exact hKn, fun j q hq => by simp at hq⟩ rfl
  obtain ⟨cell, q1, q2, q3, q4⟩ := hob
  obtain ⟨hSl, hfc, kC, hkC, hkind⟩ := hKn
  obtain ⟨cf, kf, fi, fd, hi, hsl⟩ := hSl f hf
  have hlay := hts _ (ma_u_in ci hci _ (u_in_lay hf))
  unfold u_lay at hlay
  have hst := (u_facts hfc hkC (u_lays hts (ma_u_in ci hci) hf) hi).1
  have hi2 : s.fieldFound? (ma_C ci) (ma_T ci f).2.1 (ma_T ci f).2.2.1 = some (cf, kf, fi, fd) := by
    rw [ma_decl_ok ci hci f hf] at hi; exact hi
  have fin : ∀ (H' : Heap) (locs1 : List Loc), H'[G.ad kk r]? = some (cell.setSlot fd.slot w) → H'.size = H.size → (∀ q : Nat, q ≠ G.ad kk r → H'[q]? = H[q]?) → va_S (ma_A G) s.heap H' locs1 → W p l e R s m args below meth c H' locs1 cells slots Q (F0 m (pc + 3) als rest) := by
    intro H' locs1 e1 e2 e3 hS1
    rw [hsl] at e1
    refine hk H' locs1 ?_ hS1
    refine co_keep K hH hv en e2 e3 em ep h1 ⟨fun z => by omega, fun z => by omega, fun ci' hc' => ?_⟩
    have hcc : ci' = ci := by omega
    subst hcc
    exact t_OB.to (V := updV (fun f => co_fv G σ kk ci' f) f w) ⟨_, e1, q2, q3, t_set q4 hap hf w⟩ ev
  have hAb : ma_A G (G.ad kk r) := K.2.1.2.1 kk r (co_vm K hv.1) hv.2.1
  by_cases hfin : (ma_T ci f).2.2.2 = true
  · rw [if_pos hfin] at hlay
    have hcf : m.cls = cf := by
      obtain ⟨_, _, c', _, _, _, -, -, hf', -, -, -, hown2, -⟩ := Cond.laysFinal_spec hlay
      have e1 : c' = cf := by have := hi.symm.trans hf'; simp at this; exact this.1.symm
      rw [ma_decl_ok ci hci f hf] at hown2
      rw [ho9, co_own_ok ci hci] at ho
      rw [← e1]; exact Option.some.inj (ho.symm.trans hown2)
    have h6 := u_fits hfc hkC hkind (Or.inr hlay) hi (ma_ty_ok ci hci f hf) hn hfit
    exact W.putFinK hx hb ho (hts _ (ma_fl_word hl)) hi2 hst hcf hin (by rw [q2]; exact h6) q1 q3 (by rw [hsl]; exact k2_hasslot (q4 f hf)) rfl rfl hd fun H' e1 e2 e3 => fin H' _ e1 e2 e3 (hS.put e2 e3 hAb)
  · rw [if_neg hfin] at hlay
    have h6 := u_store hfc hkC hkind hlay hi (ma_ty_ok ci hci f hf) hn hfit
    exact W.putK hx hb (f := fd) (own := ma_own o) (ref := ma_C ci) (index := i) ⟨ho, hts _ (ma_fl_word hl), ⟨_, _, _, hi2⟩, hst⟩ (by rw [q2]; exact h6) q1 q3 (by rw [hsl]; exact k2_hasslot (q4 f hf)) rfl rfl hd fun H' e1 e2 e3 => fin H' _ e1 e2 e3 (hS.put e2 e3 hAb)
end CPF
section CPG
variable {p : Program} {l : Launch} {e : Env} {R : Room} {s : State} {m : MethodId} {args : Array Value} {below : List Frame} {meth : Method} {c : Code} {Q : State → Prop} {G : ma_G} {cc : ByteArray} {o nL n0 s0 pc pc' : Nat} {ls st : List ma_V} {σ : co_S}
theorem co_rf_val0 : ∀ k, k < 69 → ∀ f, f < 60 → (ma_fk ((ma_ck k).1 - 10) f = 3 ∧ 10 ≤ (ma_ck k).1 → ma_rf k f < 69 ∧ 0 < (ma_ck (ma_rf k f)).2.2) := by decide +kernel
theorem co_N60 : ∀ ci, ci < 11 → ma_N ci ≤ 60 := by decide +kernel
theorem co_rf_val (ci : Nat) (hci : ci < 11) (k : Nat) (hk : k < 69) (hc : (ma_ck k).1 = 10 + ci) (f : Nat) (hf : f < ma_N ci) (h3 : ma_fk ci f = 3) : ma_rf k f < 69 ∧ 0 < (ma_ck (ma_rf k f)).2.2 :=
  co_rf_val0 k hk f (Nat.lt_of_lt_of_le hf (co_N60 ci hci)) ⟨by rw [hc, show 10 + ci - 10 = ci by omega]; exact h3, by omega⟩
theorem co_get {ci f i k : Nat} (C : co_Cx p s m args c G cc o nL) (hd : decode cc pc = .ok (.getfield i, 3)) (hv : co_in σ k 0) (hc : (ma_ck k).1 = 10 + ci) (hci : ci < 11) (hf : f < ma_N ci) (hl : (o, i, ci, f) ∈ ma_fl) (h3 : ma_fk ci f = 3) (hp : (k, f) ∈ σ.2.2.1)
    (hk : co_W p l e R s m args below meth c Q G nL n0 s0 (pc + 3) ls (ma_Rf (ma_rf k f) 0 :: st) σ) : co_W p l e R s m args below meth c Q G nL n0 s0 pc ls (ma_Rf k 0 :: st) σ := by
  intro H locs als vs hH hS hL hRS
  obtain ⟨_, vs, rfl, ⟨rfl, hv9⟩, hR1⟩ := ma_RS_cons hRS
  refine co_getF C hH hv hc hci hf hl hd ?_
  have e : co_fv G σ k ci f = .ref (G.ad (ma_rf k f) 0) := by
    unfold co_fv
    rw [if_neg (by omega), if_pos h3, if_pos hp]
  rw [e]
  obtain ⟨r1, r2⟩ := co_rf_val ci hci k (hv.1.1) hc f hf h3
  exact hk H locs als _ hH hS hL ⟨⟨rfl, co_vm C.2.2.2.2.2 ⟨r1, Int.le_refl _, by show (0 : Int) < (((ma_ck (ma_rf k f)).2.2 : Nat) : Int); exact_mod_cast r2⟩⟩, hR1⟩
theorem co_put {ci f i k b : Nat} (C : co_Cx p s m args c G cc o nL) (hin : meth.name = "<init>") (ho9 : o = ci) (hd : decode cc pc = .ok (.putfield i, 3)) (hv : co_in σ k 0) (hc : (ma_ck k).1 = 10 + ci) (h1 : (ma_ck k).2.2 = 1) (hci : ci < 11) (hf : f < ma_N ci) (hl : (o, i, ci, f) ∈ ma_fl) (hb : (ma_fk ci f = 3 ∧ b = ma_rf k f) ∨ (ma_fk ci f = 4 ∧ b = co_dyn f))
    (hk : co_W p l e R s m args below meth c Q G nL n0 s0 (pc + 3) ls st (σ.1, σ.2.1, (k, f) :: σ.2.2.1, σ.2.2.2)) : co_W p l e R s m args below meth c Q G nL n0 s0 pc ls (ma_Rf b 0 :: ma_Rf k 0 :: st) σ := by
  intro H locs als vs hH hS hL hRS
  obtain ⟨_, vs, rfl, ⟨rfl, hvb⟩, hR1⟩ := ma_RS_cons hRS
  obtain ⟨_, vs, rfl, ⟨rfl, hv9⟩, hR2⟩ := ma_RS_cons hR1
  have hr := co_isr_v (co_isr_ok ci hci f hf (by rcases hb with z | z; exact Or.inl z.1; exact Or.inr z.1)) (G.ad b 0)
  refine co_putF (σ' := (σ.1, σ.2.1, (k, f) :: σ.2.2.1, σ.2.2.2)) C hH hS hv hc h1 hci hf hl ho9 hin hd hr.1 hr.2 rfl (fun k' i hk' => rfl) (fun k' f' hk' => ?_) (fun j hj => ?_) (fun H1 locs1 hH1 hS1 => hk H1 locs1 als _ hH1 hS1 hL hR2)
  · constructor
    · intro z
      rcases List.mem_cons.mp z with z | z
      · exact absurd (congrArg Prod.fst z) hk'
      · exact z
    · exact fun z => List.mem_cons_of_mem _ z
  · by_cases hjf : j = f
    · subst hjf
      simp only [updV, if_true]
      unfold co_fv
      rcases hb with ⟨z1, rfl⟩ | ⟨z1, rfl⟩
      · rw [if_neg (by omega), if_pos z1, if_pos (List.mem_cons_self)]
      · rw [if_neg (by omega), if_neg (by omega), if_pos z1, if_pos (List.mem_cons_self)]
    · simp only [updV, if_neg hjf]
      have e : ((k, j) ∈ (k, f) :: σ.2.2.1) = ((k, j) ∈ σ.2.2.1) := by
        apply propext
        constructor
        · intro z
          rcases List.mem_cons.mp z with z | z
          · exact absurd (congrArg Prod.snd z) hjf
          · exact z
        · exact fun z => List.mem_cons_of_mem _ z
      unfold co_fv
      simp only [e]
theorem co_put0 {ci f i k : Nat} (C : co_Cx p s m args c G cc o nL) (hin : meth.name = "<init>") (ho9 : o = ci) (hd : decode cc pc = .ok (.putfield i, 3)) (hv : co_in σ k 0) (hc : (ma_ck k).1 = 10 + ci) (h1 : (ma_ck k).2.2 = 1) (hci : ci < 11) (hf : f < ma_N ci) (hl : (o, i, ci, f) ∈ ma_fl) (h3 : ma_fk ci f = 0)
    (hk : co_W p l e R s m args below meth c Q G nL n0 s0 (pc + 3) ls st σ) : co_W p l e R s m args below meth c Q G nL n0 s0 pc ls (ma_I 0 :: ma_Rf k 0 :: st) σ := by
  intro H locs als vs hH hS hL hRS
  obtain ⟨_, vs, rfl, ⟨x, rfl, hx⟩, hR1⟩ := ma_RS_cons hRS
  obtain ⟨_, vs, rfl, ⟨rfl, hv9⟩, hR2⟩ := ma_RS_cons hR1
  have ex : x = 0 := by rw [← ma_ofT hx]; rfl
  subst ex
  have ht := (ma_fk_ok ci hci f hf).1 h3
  refine co_putF (σ' := σ) C hH hS hv hc h1 hci hf hl ho9 hin hd (by rw [ht]; rfl) (by rw [ht]; rfl) rfl (fun k' i hk' => rfl) (fun k' f' hk' => Iff.rfl) (fun j hj => ?_) (fun H1 locs1 hH1 hS1 => hk H1 locs1 als _ hH1 hS1 hL hR2)
  by_cases hjf : j = f
  · subst hjf
    simp only [updV, if_true]
    unfold co_fv
    rw [if_neg (by omega), if_neg (by omega), if_neg (by omega)]
  · simp only [updV, if_neg hjf]
theorem co_iald {k : Nat} {i r9 : Int} (C : co_Cx p s m args c G cc o nL) (hd : decode cc pc = .ok (.iaload, 1)) (hv : co_in σ k r9) (hc : (ma_ck k).1 = 0) (hi : 0 ≤ i ∧ i < ((ma_ck k).2.1 : Int)) (h32 : ma_r32 (co_mem σ k i))
    (hk : co_W p l e R s m args below meth c Q G nL n0 s0 (pc + 1) ls (ma_I (co_mem σ k i) :: st) σ) : co_W p l e R s m args below meth c Q G nL n0 s0 pc ls (ma_I i :: ma_Rf k r9 :: st) σ := by
  intro H locs als vs hH hS hL hRS
  obtain ⟨_, vs, rfl, ⟨x, rfl, hx⟩, hR1⟩ := ma_RS_cons hRS
  obtain ⟨_, vs, rfl, ⟨rfl, hv9⟩, hR2⟩ := ma_RS_cons hR1
  have e1 := (hH.2 k _ hv).1 (by omega)
  obtain ⟨f1, f2, f3, f4⟩ := ma_idx hx hi
  rw [hc] at e1
  have K := C.2.2.2.2.2
  exact W.iald (v := .int (Int32.ofInt (co_mem σ k i))) C.1 C.2.1 e1 (K.1.1 0 (by decide) _ _) (fun z => by cases z) (by rw [arrV_size]; exact f1) (by rw [arrV_read _ _ f3, f4]; rfl) (g := F0 m pc als (.int x :: .ref (G.ad k r9) :: vs)) rfl rfl hd (hk H locs als (_ :: vs) hH hS hL ⟨⟨_, rfl, ma_back h32⟩, hR2⟩)
theorem co_iast {k : Nat} {i v : Int} {σ' : co_S} (C : co_Cx p s m args c G cc o nL) (hd : decode cc pc = .ok (.iastore, 1)) (hv : co_in σ k 0) (hc : (ma_ck k).1 = 0) (h1 : (ma_ck k).2.2 = 1) (hi : 0 ≤ i ∧ i < ((ma_ck k).2.1 : Int)) (hn : σ'.1 = σ.1 ∧ σ'.2.1 = σ.2.1) (hp : σ'.2.2.1 = σ.2.2.1) (hm : ∀ (k' : Nat) (i : Int), k' ≠ k → co_mem σ' k' i = co_mem σ k' i) (hm0 : ∀ j : Nat, co_mem σ' k j = if (j : Int) = i then v else co_mem σ k j)
    (hk : co_W p l e R s m args below meth c Q G nL n0 s0 (pc + 1) ls st σ') : co_W p l e R s m args below meth c Q G nL n0 s0 pc ls (ma_I v :: ma_I i :: ma_Rf k 0 :: st) σ := by
  intro H locs als vs hH hS hL hRS
  obtain ⟨_, vs, rfl, ⟨y, rfl, hy⟩, hR0⟩ := ma_RS_cons hRS
  obtain ⟨_, vs, rfl, ⟨x, rfl, hx⟩, hR1⟩ := ma_RS_cons hR0
  obtain ⟨_, vs, rfl, ⟨rfl, hv9⟩, hR2⟩ := ma_RS_cons hR1
  have e1 := (hH.2 k _ hv).1 (by omega)
  obtain ⟨f1, f2, f3, f4⟩ := ma_idx hx hi
  rw [hc] at e1
  have K := C.2.2.2.2.2
  refine W.iast C.1 C.2.1 e1 (K.1.1 0 (by decide) _ _) (fun z => by cases z) (by rw [arrV_size]; exact f1) (g := F0 m pc als (.int y :: .int x :: .ref (G.ad k 0) :: vs)) rfl rfl hd (fun H' g1 g2 g3 => ?_)
  rw [← hn.1, ← hn.2]
  refine hk H' _ als vs ?_ (hS.put g2 g3 (K.2.1.2.1 k 0 (co_vm K hv.1) hv.2.1)) hL hR2
  refine co_keep K hH hv hn.1 g2 g3 hm (fun k' f hk' => by rw [hp]) h1 ⟨fun _ => ?_, fun z => by omega, fun ci z => by omega⟩
  rw [g1, arrV_store, hc]
  congr 2
  funext j
  show (if j = x.toNatClampNeg then Value.int y else _) = ma_cv 0 (co_mem σ' k j)
  rw [hm0 j]
  by_cases hj : j = x.toNatClampNeg
  · rw [if_pos hj, if_pos (by rw [hj]; exact f4)]
    exact congrArg Value.int (ma_ofT hy).symm
  · rw [if_neg hj, if_neg (fun z => hj (by omega))]
end CPG
theorem co_KX.moved {G : ma_G} {s U : State} (hW : s.WarmedH U.vm) (hS : s.heap.size ≤ U.heap.size) (h : co_KX G s) : co_KX G U := by
  obtain ⟨h1, h2, h3, h4, h5, h6, h7⟩ := h
  have hvm := hW.alike
  refine ⟨h1.moved hvm, h2, Nat.le_trans h3 hS, h4, fun t ht => by rw [hvm.findClass]; exact h5 t ht, fun w hw => ?_, ⟨fun t ht => over_moved hvm (h7.1 t ht), h7.2⟩⟩
  obtain ⟨x, -, rfl⟩ := List.mem_map.mp hw
  exact va_Nw.warmM hW (h6 _ hw)
theorem co_KX.blind {G : ma_G} {U : State} {g : JFrame} {mk : MethodId} {a : Array Value} (h : co_KX G U) : co_KX G (U.calling g mk a) := by
  obtain ⟨h1, h2, h3, h4, h5, h6, h7⟩ := h
  have hvm : U.vm.Alike (U.calling g mk a).vm := Vm.Alike.refl U.vm
  refine ⟨h1.moved hvm, h2, h3, h4, fun t ht => h5 t ht, fun w hw => ?_, ⟨fun t ht => over_moved hvm (h7.1 t ht), h7.2⟩⟩
  obtain ⟨x, -, rfl⟩ := List.mem_map.mp hw
  exact va_Nw.same (u := U) rfl rfl (h6 _ hw)
def co_rm (d mc ms : Nat) : Room := { frames := d + 10, cells := mc, slots := ms, locals := 43 * d + 200 }
def co_Pc (G : ma_G) (as : List ma_V) (σ : co_S) : Array Value → State → Prop := fun v U => (∃ vl : List Value, v = vl.toArray ∧ ma_RS G as vl) ∧ co_H G σ U.heap ∧ co_KX G U
def co_Qc (G : ma_G) (v : Option ma_V) (σ : co_S) : Array Value → State → Outcome → State → Prop := match v with
  | none => va_Qv (fun _ : Unit => True) (fun _ t => co_H G σ t.heap) (ma_A G)
  | some w => va_Qi (fun r (_ : Unit) => w = ma_I r.toInt) (fun _ t => co_H G σ t.heap) (ma_A G)
def co_Ct (l : Launch) (G : ma_G) (d y : Nat) (as : List ma_V) (σ : co_S) (v : Option ma_V) (σ' : co_S) : Prop := Met l (co_y y) (co_cw y :: ma_WG) (co_rm d (σ'.1 - σ.1) (σ'.2.1 - σ.2.1)) (co_Pc G as σ) (co_Qc G v σ') (σ'.1 - σ.1) (σ'.2.1 - σ.2.1) (ma_A G)
theorem co_blind (G : ma_G) (as : List ma_V) (σ : co_S) : FrameBlind (co_Pc G as σ) := fun _ _ _ _ h => ⟨h.1, h.2.1, h.2.2.blind⟩
theorem co_cw_ok (y : Nat) (h : y < 11) : co_cw y ∈ ma_WG := co_cw_in _ (List.mem_map.mpr ⟨y, List.mem_range.mpr h, rfl⟩)
theorem co_goodIn {y : Nat} (hy : y < 11) : GoodIn ma_WG (co_cw y :: ma_WG) := goodIn_sub (fun w h => (List.mem_cons.mp h).elim (fun e => by rw [e]; exact co_cw_ok y hy) id) (List.all_eq_true.mpr fun w h => (List.mem_cons.mp h).elim (fun e => by rw [e]; exact ma_WGgood _ (co_cw_ok y hy)) (ma_WGgood w))
theorem co_ms_ok (y : Nat) (h : y < 11) : (if co_st y then Cond.static (co_y y) else Cond.instanceMethod (co_y y)) ∈ ma_WG := co_ms_in _ (List.mem_map.mpr ⟨y, List.mem_range.mpr h, rfl⟩)
theorem co_cls_ok : ∀ y, y < 11 → plainName (co_y y).cls = true ∧ (co_y y).cls ≠ "java/lang/invoke/MethodHandle" ∧ (co_y y).cls ≠ "java/lang/invoke/VarHandle" ∧ (parseMethodDescriptor (co_y y).desc).map (fun d => d.parameters.length) = some (co_na y) ∧ co_nL y ≤ 24 ∧ (co_y y).cls = ma_own (co_o y) ∧ co_o y < 11 ∧ ma_own (co_o y) = ma_C (co_o y) ∧ (y < 11 → (co_y y).name = "<init>" ∧ co_st y = false ∧ co_rt y = none) ∧ (11 ≤ y → co_st y = true ∧ co_rt y = some .int ∧ co_na y = 1) := by decide +kernel
theorem co_roomC {d y mc ms : Nat} {R : Room} (hR : d + 11 ≤ R.frames ∧ 43 * (d + 1) + 200 ≤ R.locals) (hn : co_nL y ≤ 24) : (co_rm d mc ms).frames + 1 ≤ R.frames ∧ 8 + (co_nL y + 11) + (co_rm d mc ms).locals ≤ R.locals := by
  obtain ⟨h1, h2⟩ := hR
  refine ⟨?_, ?_⟩
  · show d + 10 + 1 ≤ _
    omega
  · show 8 + (co_nL y + 11) + (43 * d + 200) ≤ _
    omega
section CPC
variable {p : Program} {l : Launch} {e : Env} {R : Room} {s : State} {m : MethodId} {args : Array Value} {below : List Frame} {meth : Method} {c : Code} {Q : State → Prop} {G : ma_G} {cc : ByteArray} {o nL n0 s0 pc pc' d : Nat} {ls st : List ma_V} {σ : co_S}
theorem co_objinit {i : Nat} {a : Nat × Int} (C : co_Cx p s m args c G cc o nL) (hd : decode cc pc = .ok (.invokespecial i, 3)) (hoi : (o, i) ∈ co_oi) (h4 : st.length ≤ 4) (hR : d + 11 ≤ R.frames ∧ 43 * (d + 1) + 200 ≤ R.locals) (hk : co_W p l e R s m args below meth c Q G nL n0 s0 (pc + 3) ls st σ) : co_W p l e R s m args below meth c Q G nL n0 s0 pc ls (ma_Rf a.1 a.2 :: st) σ := by
  intro H locs als vs hH hS hL hRS
  obtain ⟨_, vs, rfl, ⟨rfl, hv9⟩, hR1⟩ := ma_RS_cons hRS
  have hc8 := ma_catR hR1 h4
  have w1 : Cond.methodLink (ma_own o) i objectInit ∈ ma_WG := co_oi_in _ (List.mem_map.mpr ⟨_, hoi, rfl⟩)
  exact W.objInit (g := F0 m pc als (.ref (G.ad a.1 a.2) :: vs)) C.1 C.2.1 C.2.2.2.1 (C.2.2.2.2.1 _ w1) (C.2.2.2.2.1 _ (co_oo_in _ List.mem_cons_self)) (C.2.2.2.2.1 _ (co_oc_in _ List.mem_cons_self)) rfl (hL.2.1.trans C.2.2.1.symm) rfl hd (by omega) (by show 2 * 0 + _ + 12 ≤ _; omega) (hk H locs als vs hH hS hL hR1)
/-- what is ready before a call -/
theorem co_pre {as bs : List ma_V} {ws : List Value} {H : Heap} {locs : List Loc} (C : co_Cx p s m args c G cc o nL) (hH : co_H G σ H) (hS : va_S (ma_A G) s.heap H locs) (hRb : ma_RS G bs ws) (hb : as = bs.reverse) : PreS s H (co_Pc G as σ) ws.reverse :=
  ⟨co_blind _ _ _, fun U hU hW => ⟨⟨_, rfl, by rw [hb]; exact ma_RS_rev hRb⟩, by rw [hU]; exact hH, co_KX.moved hW (by rw [hU]; exact hS.1) C.2.2.2.2.2⟩⟩
theorem co_callI {i y nest : Nat} {as as' rest : List ma_V} {a : Nat × Int} {σ' : co_S} (hfst : as = ma_Rf a.1 a.2 :: as') (C : co_Cx p s m args c G cc o nL) (hd : decode cc pc = .ok (.invokespecial i, 3)) (hy : y < 11) (hlk : (nest = 0 ∧ (o, i, y) ∈ co_lk) ∨ (o, i, y) ∈ co_mN) (hpop : ma_pop (co_na y + 1) st [] = some (as, rest)) (h4 : rest.length ≤ 4) (hR : d + 11 ≤ R.frames ∧ 43 * (d + 1) + 200 ≤ R.locals)
    (hM : co_Ct l G d y as σ none σ') (hn : n0 ≤ σ.1 ∧ s0 ≤ σ.2.1 ∧ σ.1 ≤ σ'.1 ∧ σ.2.1 ≤ σ'.2.1) (hRo : σ'.1 - n0 ≤ R.cells ∧ σ'.2.1 - s0 ≤ R.slots) (hk : co_W p l e R s m args below meth c Q G nL n0 s0 (pc + 3) ls rest σ') : co_W p l e R s m args below meth c Q G nL n0 s0 pc ls st σ := by
  obtain ⟨bs, b1, b2, b3⟩ := ma_pop_e _ _ _ _ _ hpop
  rw [List.append_nil] at b3
  subst b2
  intro H locs als vs0 hH hS hL hRS
  obtain ⟨ws, vs, rfl, hRb, hR2⟩ := ma_RS_app hRS
  have hc8 := ma_catR hR2 h4
  obtain ⟨hplain, hmh, hvh, hpar, hnl, ho1, ho2, ho3, hi9, -⟩ := co_cls_ok y (by omega)
  obtain ⟨hnm, hst, hrt⟩ := hi9 hy
  have hlen : ws.length = co_na y + 1 := by rw [ma_RS_len hRb, b1]
  have hpre := co_pre (as := as) C hH hS hRb b3
  obtain ⟨z, As, hzA⟩ : ∃ z As, ws.reverse = z :: As := by
    cases hq : ws.reverse with
    | nil =>
      have := congrArg List.length hq
      rw [List.length_reverse, hlen] at this
      simp at this
    | cons z As => exact ⟨z, As, rfl⟩
  have hw0 : ws = As.reverse ++ [z] := by rw [← List.reverse_reverse ws, hzA, List.reverse_cons]
  have hAs : As.length = co_na y := by
    have := congrArg List.length hzA
    rw [List.length_reverse, hlen] at this
    simp at this
    omega
  obtain ⟨bz, hbz⟩ : ∃ bz : Addr, z = .ref bz := by
    have h9 := ma_RS_rev hRb
    rw [← b3, hfst, hzA] at h9
    exact ⟨_, h9.1.1⟩
  subst hbz
  rw [hzA] at hpre
  have hsw := C.2.2.2.2.1 _ (co_ms_ok y (by omega))
  rw [hst] at hsw
  have hini := C.2.2.2.2.1 _ (co_ini_w (co_o y) ho2)
  rw [← ho3, ← ho1] at hini
  have hgi := co_goodIn (y := y) (by omega)
  have hcw : co_cw y = .code (co_y y) (co_b y) (co_nL y) none := by unfold co_cw; rw [hrt]
  have hM : Met l (co_y y) (co_cw y :: ma_WG) (co_rm d (σ'.1 - σ.1) (σ'.2.1 - σ.2.1)) (co_Pc G as σ) (va_Qv (fun _ : Unit => True) (fun _ t => co_H G σ' t.heap) (ma_A G)) (σ'.1 - σ.1) (σ'.2.1 - σ.2.1) (ma_A G) := hM
  rw [hcw] at hM hgi
  have hst9 : (F0 m pc als (ws ++ vs)).stack = As.reverse ++ .ref bz :: vs := by show ws ++ vs = _; rw [hw0]; simp
  have hrun : va_Run p l e R s m args below meth c H locs (σ.1 - n0) (σ.2.1 - s0) (σ'.1 - σ.1) (σ'.2.1 - σ.2.1) (F0 m pc als (ws ++ vs)) vs (va_Qv (fun _ : Unit => True) (fun _ t => co_H G σ' t.heap) (ma_A G) (Value.ref bz :: As).toArray) (ma_A G) := by
    rcases hlk with ⟨-, hl⟩ | hl
    · have w1 : Cond.methodLink (ma_own o) i (co_y y) ∈ ma_WG := co_lk_in _ (List.mem_map.mpr ⟨_, hl, rfl⟩)
      exact va_runI (nL := nL) (Ts := ma_WG) ⟨C.1, C.2.1, C.2.2.1, C.2.2.2.1, C.2.2.2.2.1⟩ hM (cwI (co_na y) C.2.2.2.2.1 hgi rfl rfl rfl hini (C.2.2.2.2.1 _ w1) hsw hnm ⟨hmh, hvh, hpar⟩ (co_roomC hR hnl)) hpre rfl hAs hL.2.1 hst9 (by show 2 * 0 + _ ≤ 8; omega) hd ⟨by omega, by omega⟩
    · have w1 : va_Nw (Cond.methodLinkNest (ma_own o) i (co_y y) "Latticefit") s := C.2.2.2.2.2.2.2.2.2.2.1 _ (List.mem_map.mpr ⟨_, hl, rfl⟩)
      exact va_runIN (nL := nL) (Ts := ma_WG) ⟨C.1, C.2.1, C.2.2.1, C.2.2.2.1, C.2.2.2.2.1⟩ hM ⟨va_cnB (co_na y) C.2.2.2.2.1 hgi rfl rfl rfl w1 hini ⟨hmh, hvh, hpar⟩ (co_roomC hR hnl), hnm, hsw⟩ hpre rfl hAs hL.2.1 hst9 (by show 2 * 0 + _ ≤ 8; omega) hd ⟨by omega, by omega⟩
  refine va_callv hrun hS (fun _ _ z => z) (fun _ z => z) (fun u t H1 locs1 h1 h2 h3 h5 _ _ h6 => ?_)
  rw [show σ.1 - n0 + (σ'.1 - σ.1) = σ'.1 - n0 by omega, show σ.2.1 - s0 + (σ'.2.1 - σ.2.1) = σ'.2.1 - s0 by omega]
  exact hk H1 locs1 als vs (by rw [← h1]; exact h5) h6 hL hR2
theorem co_callS {i y : Nat} {v : ma_V} {as rest : List ma_V} {σ' : co_S} (C : co_Cx p s m args c G cc o nL) (hd : decode cc pc = .ok (.invokestatic i, 3)) (hy : 11 ≤ y ∧ y < 11) (hlk : (o, i, y) ∈ co_lk) (hpop : ma_pop 1 st [] = some (as, rest)) (h4 : rest.length ≤ 4) (hR : d + 11 ≤ R.frames ∧ 43 * (d + 1) + 200 ≤ R.locals)
    (hM : co_Ct l G d y as σ (some v) σ') (hn : n0 ≤ σ.1 ∧ s0 ≤ σ.2.1 ∧ σ.1 ≤ σ'.1 ∧ σ.2.1 ≤ σ'.2.1) (hRo : σ'.1 - n0 ≤ R.cells ∧ σ'.2.1 - s0 ≤ R.slots) (hk : co_W p l e R s m args below meth c Q G nL n0 s0 (pc + 3) ls (v :: rest) σ') : co_W p l e R s m args below meth c Q G nL n0 s0 pc ls st σ := by
  obtain ⟨bs, b1, b2, b3⟩ := ma_pop_e _ _ _ _ _ hpop
  rw [List.append_nil] at b3
  subst b2
  intro H locs als vs0 hH hS hL hRS
  obtain ⟨ws, vs, rfl, hRb, hR2⟩ := ma_RS_app hRS
  have hc8 := ma_catR hR2 h4
  obtain ⟨hplain, hmh, hvh, hpar, hnl, ho1, ho2, ho3, -, hi9⟩ := co_cls_ok y (by omega)
  obtain ⟨hst, hrt, hna⟩ := hi9 hy.1
  have hlen : ws.length = 1 := by rw [ma_RS_len hRb, b1]
  have hpre := co_pre (as := as) C hH hS hRb b3
  have hsw := C.2.2.2.2.1 _ (co_ms_ok y (by omega))
  rw [hst] at hsw
  have hgi := co_goodIn (y := y) (by omega)
  have hcw : co_cw y = .code (co_y y) (co_b y) (co_nL y) (some .int) := by unfold co_cw; rw [hrt]
  have hM : Met l (co_y y) (co_cw y :: ma_WG) (co_rm d (σ'.1 - σ.1) (σ'.2.1 - σ.2.1)) (co_Pc G as σ) (va_Qi (fun r (_ : Unit) => v = ma_I r.toInt) (fun _ t => co_H G σ' t.heap) (ma_A G)) (σ'.1 - σ.1) (σ'.2.1 - σ.2.1) (ma_A G) := hM
  rw [hcw] at hM hgi
  have w1 : Cond.methodLink (ma_own o) i (co_y y) ∈ ma_WG := co_lk_in _ (List.mem_map.mpr ⟨_, hlk, rfl⟩)
  have hini := C.2.2.2.2.1 _ (co_ini_w (co_o y) ho2)
  rw [← ho3, ← ho1] at hini
  have hst9 : (F0 m pc als (ws ++ vs)).stack = ws.reverse.reverse ++ vs := by rw [List.reverse_reverse]
  have hrun : va_Run p l e R s m args below meth c H locs (σ.1 - n0) (σ.2.1 - s0) (σ'.1 - σ.1) (σ'.2.1 - σ.2.1) (F0 m pc als (ws ++ vs)) vs (va_Qi (fun r (_ : Unit) => v = ma_I r.toInt) (fun _ t => co_H G σ' t.heap) (ma_A G) ws.reverse.toArray) (ma_A G) :=
    va_runS (nL := nL) (Ts := ma_WG) (n := 1) ⟨C.1, C.2.1, C.2.2.1, C.2.2.2.1, C.2.2.2.2.1⟩ hM ⟨callB_of 1 C.2.2.2.2.1 hgi rfl rfl rfl hini (C.2.2.2.2.1 _ w1) ⟨hmh, hvh, by rw [hpar, hna]⟩ (co_roomC hR hnl), hsw⟩ hpre rfl (by rw [List.length_reverse, hlen]) hL.2.1 hst9 (by show 2 * 0 + _ ≤ 8; omega) hd ⟨by omega, by omega⟩
  refine va_calli hrun hS (fun _ _ z => z) (fun _ z => z) (fun r u t H1 locs1 h1 h2 h3 h5 _ _ h6 => ?_)
  rw [show σ.1 - n0 + (σ'.1 - σ.1) = σ'.1 - n0 by omega, show σ.2.1 - s0 + (σ'.2.1 - σ.2.1) = σ'.2.1 - s0 by omega]
  exact hk H1 locs1 als _ (by rw [← h1]; exact h5) h6 hL ⟨(by rw [h3]; exact ⟨r, rfl, rfl⟩), hR2⟩
end CPC
