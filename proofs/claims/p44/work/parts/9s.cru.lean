/-! the runs of the machine of the constructors are true to the JVM -/
theorem co_bif {α : Type} {b : Bool} {x : Option α} {y : α} (h : (bif b then x else none) = some y) : b = true ∧ x = some y := by
  cases b
  · cases h
  · exact ⟨rfl, h⟩
def co_okl (o : Nat) (ini : Bool) (pc len : Nat) (ins : Instr) (p : Nat) (q : Int) : Bool := match ins with
  | .iload_n _ => decide (len = 1)
  | .aload_n _ => decide (len = 1)
  | .istore_n _ => decide (len = 1)
  | .astore_n _ => decide (len = 1)
  | .iload _ => decide (len = 2)
  | .aload _ => decide (len = 2)
  | .istore _ => decide (len = 2)
  | .astore _ => decide (len = 2)
  | .iconst n => decide (len = 1 ∧ (Int32.ofInt n).toInt = q)
  | .bipush n => decide (len = 2 ∧ (Int8.ofInt n).toInt32.toInt = q)
  | .sipush n => decide (len = 3 ∧ (Int16.ofInt n).toInt32.toInt = q)
  | .iadd => decide (len = 1)
  | .isub => decide (len = 1)
  | .imul => decide (len = 1)
  | .idiv => decide (len = 1)
  | .irem => decide (len = 1)
  | .dup => decide (len = 1)
  | .dup2 => decide (len = 1)
  | .iaload => decide (len = 1)
  | .iastore => decide (len = 1)
  | .ireturn => decide (len = 1)
  | .return_ => decide (len = 1)
  | .iinc _ _ => decide (len = 3)
  | .goto off => decide (len = 3 ∧ 0 ≤ (pc : Int) + off)
  | .if_icmp _ off => decide (len = 3 ∧ 0 ≤ (pc : Int) + off)
  | .newarray t => decide (len = 2 ∧ co_at t ≤ 4)
  | .multianewarray i n => decide (len = 4 ∧ n = 2 ∧ (o, i, p) ∈ co_al ∧ 5 ≤ p ∧ p < 7)
  | .new i => decide (len = 3 ∧ (o, i, p) ∈ co_cl ∧ p < 11)
  | .getfield i => decide (len = 3 ∧ (o, i, p, q.toNat) ∈ ma_fl ∧ p < 11 ∧ q.toNat < ma_N p)
  | .putfield i => decide (len = 3 ∧ (o, i, p, q.toNat) ∈ ma_fl ∧ p < 11 ∧ q.toNat < ma_N p ∧ o = p ∧ ini = true)
  | .invokespecial i => decide (len = 3 ∧ ((p = 99 ∧ (o, i) ∈ co_oi) ∨ (p < 11 ∧ ((o, i, p) ∈ co_lk ∨ (o, i, p) ∈ co_mN))))
  | .invokestatic i => decide (len = 3 ∧ 11 ≤ p ∧ p < 11 ∧ (o, i, p) ∈ co_lk)
  | _ => false
def co_okb (cc : ByteArray) (o : Nat) (ini : Bool) (a : co_AI) : Bool := match decode cc a.1 with
  | .ok r => decide (r = (a.2.2.1, a.2.1)) && co_okl o ini a.1 a.2.1 a.2.2.1 a.2.2.2.1 a.2.2.2.2
  | _ => false
theorem co_okb_e {cc : ByteArray} {o : Nat} {ini : Bool} {a : co_AI} (h : co_okb cc o ini a = true) : decode cc a.1 = .ok (a.2.2.1, a.2.1) ∧ co_okl o ini a.1 a.2.1 a.2.2.1 a.2.2.2.1 a.2.2.2.2 = true := by
  unfold co_okb at h
  cases hd : decode cc a.1 with
  | error _ => rw [hd] at h; cases h
  | ok r =>
    rw [hd] at h
    have h : (decide (r = (a.2.2.1, a.2.1)) && co_okl o ini a.1 a.2.1 a.2.2.1 a.2.2.2.1 a.2.2.2.2) = true := h
    rw [Bool.and_eq_true] at h
    exact ⟨by rw [of_decide_eq_true h.1], h.2⟩
def co_so : co_O → co_S
  | .inl z => z.2.2.2
  | .inr z => z.2
/-- what stands behind an instruction -/
def co_nx (p : Program) (l : Launch) (e : Env) (R : Room) (s : State) (m : MethodId) (args : Array Value) (below : List Frame) (meth : Method) (c : Code) (Q : State → Prop) (G : ma_G) (cc : ByteArray) (nL n0 s0 pc len : Nat) (σ : co_S) : co_O → Prop
  | .inl (none, ls, st, σ') => co_W p l e R s m args below meth c Q G nL n0 s0 (pc + len) ls st σ'
  | .inl (some t, ls, st, σ') => co_W p l e R s m args below meth c Q G nL n0 s0 t ls st σ'
  | .inr (none, σ') => decode cc pc = .ok (.return_, 1) → ∀ (H : Heap) (locs : List Loc) (als : Array Slot), co_H G σ' H → va_S (ma_A G) s.heap H locs → W p l e R s m args below meth c H locs (σ'.1 - n0) (σ'.2.1 - s0) Q (F0 m pc als [])
  | .inr (some v, σ') => decode cc pc = .ok (.ireturn, 1) → ∀ (H : Heap) (locs : List Loc) (als : Array Slot) (x : Int32), v = ma_I x.toInt → co_H G σ' H → va_S (ma_A G) s.heap H locs → W p l e R s m args below meth c H locs (σ'.1 - n0) (σ'.2.1 - s0) Q (F0 m pc als [.int x])
theorem co_one0 : ∀ k, k < 69 → 10 ≤ (ma_ck k).1 → (ma_ck k).2.2 = 1 := by decide +kernel
theorem co_one {σ : co_S} {r : Int} (ci k : Nat) (h : (ma_ck k).1 = 10 + ci) (hv : co_in σ k r) : (ma_ck k).2.2 = 1 := co_one0 k (hv.1.1) (by omega)
section CPT
variable {p : Program} {l : Launch} {e : Env} {R : Room} {s : State} {m : MethodId} {args : Array Value} {below : List Frame} {meth : Method} {c : Code} {Q : State → Prop} {G : ma_G} {cc : ByteArray} {o nL n0 s0 d : Nat} {ls st : List ma_V} {σ : co_S} {call : co_C}
set_option maxHeartbeats 2000000 in
theorem co_s_step (a : co_AI) (ini : Bool) (C : co_Cx p s m args c G cc o nL) (hok : co_okb cc o ini a = true) (hini : ini = true → meth.name = "<init>") (hR : d + 11 ≤ R.frames ∧ 43 * (d + 1) + 200 ≤ R.locals) (hcall : ∀ y as σ v σ', y < 11 → call y as σ = some (v, σ') → (σ.1 ≤ σ'.1 ∧ σ.2.1 ≤ σ'.2.1) ∧ co_Ct l G d y as σ v σ') (out : co_O) (h : co_step call a ls st σ = some out) (hn : n0 ≤ σ.1 ∧ s0 ≤ σ.2.1) (hRo : (co_so out).1 - n0 ≤ R.cells ∧ (co_so out).2.1 - s0 ≤ R.slots)
    (hK : co_nx p l e R s m args below meth c Q G cc nL n0 s0 a.1 a.2.1 σ out) : co_W p l e R s m args below meth c Q G nL n0 s0 a.1 ls st σ := by
  obtain ⟨hd, hl⟩ := co_okb_e hok
  obtain ⟨pc, len, ins, pp, q⟩ := a
  dsimp only at hd hl hK
  show co_W p l e R s m args below meth c Q G nL n0 s0 pc ls st σ
  unfold co_okl at hl
  have neR : ∀ a : Nat × Int, ma_Rf a.1 a.2 ≠ ma_U := fun a z => by cases z
  cases ins with
  | iload_n i =>
    have e1 := of_decide_eq_true hl; subst e1
    replace h : (match (generalizing := false) ls.getD i.val ma_U with | .inl n => some (Sum.inl (none, ls, ma_I n :: st, σ)) | _ => none) = some out := h
    split at h
    · rename_i n hg
      cases h
      exact co_load ma_neU_I hg (fun w hw H locs als cells slots rest hal hk => by obtain ⟨x, rfl, -⟩ := hw; exact lv_iload_n C.1 C.2.1 hd rfl hal hk) hK
    · cases h
  | iload i =>
    have e1 := of_decide_eq_true hl; subst e1
    replace h : (match (generalizing := false) ls.getD i ma_U with | .inl n => some (Sum.inl (none, ls, ma_I n :: st, σ)) | _ => none) = some out := h
    split at h
    · rename_i n hg
      cases h
      exact co_load ma_neU_I hg (fun w hw H locs als cells slots rest hal hk => by obtain ⟨x, rfl, -⟩ := hw; exact lv_iload C.1 C.2.1 hd hal hk) hK
    · cases h
  | aload_n i =>
    have e1 := of_decide_eq_true hl; subst e1
    replace h : (match (generalizing := false) ls.getD i.val ma_U with | .inr (.inr (.inl a)) => some (Sum.inl (none, ls, ma_Rf a.1 a.2 :: st, σ)) | _ => none) = some out := h
    split at h
    · rename_i a hg
      cases h
      exact co_load (neR a) hg (fun w hw H locs als cells slots rest hal hk => by obtain ⟨rfl, -⟩ := hw; exact lv_aload_n C.1 C.2.1 hd rfl hal hk) hK
    · cases h
  | aload i =>
    have e1 := of_decide_eq_true hl; subst e1
    replace h : (match (generalizing := false) ls.getD i ma_U with | .inr (.inr (.inl a)) => some (Sum.inl (none, ls, ma_Rf a.1 a.2 :: st, σ)) | _ => none) = some out := h
    split at h
    · rename_i a hg
      cases h
      exact co_load (neR a) hg (fun w hw H locs als cells slots rest hal hk => by obtain ⟨rfl, -⟩ := hw; exact lv_aload C.1 C.2.1 hd hal hk) hK
    · cases h
  | iconst n =>
    obtain ⟨e1, e2⟩ := of_decide_eq_true hl; subst e1
    replace h : some (Sum.inl (none, ls, ma_I q :: st, σ)) = some out := h
    cases h
    exact co_psh (v := ma_I q) (w := .int (Int32.ofInt n)) ⟨_, rfl, e2⟩ (fun H locs als cells slots rest hk => lv_iconst C.1 C.2.1 hd rfl hk) hK
  | bipush n =>
    obtain ⟨e1, e2⟩ := of_decide_eq_true hl; subst e1
    replace h : some (Sum.inl (none, ls, ma_I q :: st, σ)) = some out := h
    cases h
    exact co_psh (v := ma_I q) (w := .int (Int8.ofInt n).toInt32) ⟨_, rfl, e2⟩ (fun H locs als cells slots rest hk => lv_bipush C.1 C.2.1 hd rfl hk) hK
  | sipush n =>
    obtain ⟨e1, e2⟩ := of_decide_eq_true hl; subst e1
    replace h : some (Sum.inl (none, ls, ma_I q :: st, σ)) = some out := h
    cases h
    exact co_psh (v := ma_I q) (w := .int (Int16.ofInt n).toInt32) ⟨_, rfl, e2⟩ (fun H locs als cells slots rest hk => lv_sipush C.1 C.2.1 hd rfl hk) hK
  | goto off =>
    obtain ⟨e1, e2⟩ := of_decide_eq_true hl; subst e1
    replace h : some (Sum.inl (some (ma_tgt pc off), ls, st, σ)) = some out := h
    cases h
    exact co_goto e2 C.1 C.2.1 hd hK
  | iinc i c9 =>
    have e1 := of_decide_eq_true hl; subst e1
    replace h : (match (generalizing := false) ls.getD i ma_U with | .inl n => (bif co_i32 (n + c9) then some (Sum.inl (none, ma_st1 ls i (ma_I (n + c9)), st, σ)) else none) | _ => none) = some out := h
    split at h
    · rename_i n hg
      obtain ⟨h1, h⟩ := co_bif h
      cases h
      exact co_inc C.1 C.2.1 hd hg (co_i32_r h1) hK
    · cases h
  | istore_n i =>
    have e1 := of_decide_eq_true hl; subst e1
    replace h : (match (generalizing := false) st with | .inl n :: st => if i.val < ls.length then some (Sum.inl (none, ma_st1 ls i.val (ma_I n), st, σ)) else none | _ => none) = some out := h
    split at h
    · rename_i n st'
      split at h
      · rename_i hi
        cases h
        exact co_sto hi (fun w hw H locs als cells slots rest lv hn hal hk => by obtain ⟨x, rfl, -⟩ := hw; exact lv_istore_n C.1 C.2.1 hd rfl hal hn rfl hk) hK
      · cases h
    · cases h
  | istore i =>
    have e1 := of_decide_eq_true hl; subst e1
    replace h : (match (generalizing := false) st with | .inl n :: st => if i < ls.length then some (Sum.inl (none, ma_st1 ls i (ma_I n), st, σ)) else none | _ => none) = some out := h
    split at h
    · rename_i n st'
      split at h
      · rename_i hi
        cases h
        exact co_sto hi (fun w hw H locs als cells slots rest lv hn hal hk => by obtain ⟨x, rfl, -⟩ := hw; exact lv_istore C.1 C.2.1 hd hal hn rfl hk) hK
      · cases h
    · cases h
  | astore_n i =>
    have e1 := of_decide_eq_true hl; subst e1
    replace h : (match (generalizing := false) st with | .inr (.inr (.inl n)) :: st => if i.val < ls.length then some (Sum.inl (none, ma_st1 ls i.val (ma_Rf n.1 n.2), st, σ)) else none | _ => none) = some out := h
    split at h
    · rename_i n st'
      split at h
      · rename_i hi
        cases h
        exact co_sto hi (fun w hw H locs als cells slots rest lv hn hal hk => by obtain ⟨rfl, -⟩ := hw; exact lv_astore_n C.1 C.2.1 hd rfl hal hn rfl hk) hK
      · cases h
    · cases h
  | astore i =>
    have e1 := of_decide_eq_true hl; subst e1
    replace h : (match (generalizing := false) st with | .inr (.inr (.inl n)) :: st => if i < ls.length then some (Sum.inl (none, ma_st1 ls i (ma_Rf n.1 n.2), st, σ)) else none | _ => none) = some out := h
    split at h
    · rename_i n st'
      split at h
      · rename_i hi
        cases h
        exact co_sto hi (fun w hw H locs als cells slots rest lv hn hal hk => by obtain ⟨rfl, -⟩ := hw; exact lv_astore C.1 C.2.1 hd hal hn rfl hk) hK
      · cases h
    · cases h
  | iadd =>
    have e1 := of_decide_eq_true hl; subst e1
    replace h : (match (generalizing := false) st with | .inl y :: .inl x :: st => (bif co_i32 (x + y) then some (Sum.inl (none, ls, ma_I (x + y) :: st, σ)) else none) | _ => none) = some out := h
    split at h
    · rename_i y x st'
      obtain ⟨h1, h⟩ := co_bif h
      cases h
      exact co_bin (f := fun x y => x + y) (F := fun a b => a + b) (fun a b ha hb => by rw [ma_f_add, ha, hb, ma_wI_id (co_i32_r h1)]) (fun a b _ _ H locs als cells slots rest hk => lv_iadd C.1 C.2.1 hd hk) hK
    · cases h
  | isub =>
    have e1 := of_decide_eq_true hl; subst e1
    replace h : (match (generalizing := false) st with | .inl y :: .inl x :: st => (bif co_i32 (x - y) then some (Sum.inl (none, ls, ma_I (x - y) :: st, σ)) else none) | _ => none) = some out := h
    split at h
    · rename_i y x st'
      obtain ⟨h1, h⟩ := co_bif h
      cases h
      exact co_bin (f := fun x y => x - y) (F := fun a b => a - b) (fun a b ha hb => by rw [ma_f_sub, ha, hb, ma_wI_id (co_i32_r h1)]) (fun a b _ _ H locs als cells slots rest hk => lv_isub C.1 C.2.1 hd hk) hK
    · cases h
  | imul =>
    have e1 := of_decide_eq_true hl; subst e1
    replace h : (match (generalizing := false) st with | .inl y :: .inl x :: st => (bif co_i32 (x * y) then some (Sum.inl (none, ls, ma_I (x * y) :: st, σ)) else none) | _ => none) = some out := h
    split at h
    · rename_i y x st'
      obtain ⟨h1, h⟩ := co_bif h
      cases h
      exact co_bin (f := fun x y => x * y) (F := fun a b => a * b) (fun a b ha hb => by rw [ma_f_mul, ha, hb, ma_wI_id (co_i32_r h1)]) (fun a b _ _ H locs als cells slots rest hk => lv_imul C.1 C.2.1 hd hk) hK
    · cases h
  | idiv =>
    have e1 := of_decide_eq_true hl; subst e1
    replace h : (match (generalizing := false) st with | .inl y :: .inl x :: st => (bif co_i32 (x.tdiv y) && !decide (y = 0) then some (Sum.inl (none, ls, ma_I (x.tdiv y) :: st, σ)) else none) | _ => none) = some out := h
    split at h
    · rename_i y x st'
      obtain ⟨h1, h⟩ := co_bif h
      cases h
      rw [Bool.and_eq_true] at h1
      have hy : y ≠ 0 := fun z => by have := h1.2; rw [z] at this; cases this
      exact co_bin (f := fun x y => x.tdiv y) (F := fun a b => a / b) (fun a b ha hb => by rw [ma_f_div, ha, hb, ma_wI_id (co_i32_r h1.1)]) (fun a b _ hb H locs als cells slots rest hk => lv_idiv C.1 C.2.1 hd (ma_ne0 hb hy) hk) hK
    · cases h
  | irem =>
    have e1 := of_decide_eq_true hl; subst e1
    replace h : (match (generalizing := false) st with | .inl y :: .inl x :: st => (bif !decide (y = 0) then some (Sum.inl (none, ls, ma_I (x.tmod y) :: st, σ)) else none) | _ => none) = some out := h
    split at h
    · rename_i y x st'
      obtain ⟨h1, h⟩ := co_bif h
      cases h
      have hy : y ≠ 0 := fun z => by have := h1; rw [z] at this; cases this
      exact co_bin (f := fun x y => x.tmod y) (F := fun a b => a - a / b * b) (fun a b ha hb => by rw [ma_f_remK, ha, hb]) (fun a b _ hb H locs als cells slots rest hk => lv_irem C.1 C.2.1 hd (ma_ne0 hb hy) hk) hK
    · cases h
  | dup =>
    have e1 := of_decide_eq_true hl; subst e1
    replace h : (match (generalizing := false) st with | .inl x :: st => some (Sum.inl (none, ls, ma_I x :: ma_I x :: st, σ)) | .inr (.inr (.inl a)) :: st => some (Sum.inl (none, ls, ma_Rf a.1 a.2 :: ma_Rf a.1 a.2 :: st, σ)) | _ => none) = some out := h
    split at h
    · cases h
      exact co_dp1 ma_neU_I rfl C.1 C.2.1 hd hK
    · rename_i a st'
      cases h
      exact co_dp1 (neR a) rfl C.1 C.2.1 hd hK
    · cases h
  | dup2 =>
    have e1 := of_decide_eq_true hl; subst e1
    replace h : (match (generalizing := false) st with | .inl x :: .inr (.inr (.inl a)) :: st => some (Sum.inl (none, ls, ma_I x :: ma_Rf a.1 a.2 :: ma_I x :: ma_Rf a.1 a.2 :: st, σ)) | _ => none) = some out := h
    split at h
    · rename_i x a st'
      cases h
      exact co_dp2 ma_neU_I rfl (neR a) rfl C.1 C.2.1 hd hK
    · cases h
  | if_icmp cd off =>
    obtain ⟨e1, e2⟩ := of_decide_eq_true hl; subst e1
    cases cd with
    | ge =>
      replace h : (match (generalizing := false) st with | .inl y :: .inl x :: st => (bif decide (y ≤ x) then some (Sum.inl (some (ma_tgt pc off), ls, st, σ)) else some (Sum.inl (none, ls, st, σ))) | _ => none) = some out := h
      split at h
      · rename_i y x st'
        refine co_ge e2 C.1 C.2.1 hd (fun z => ?_) (fun z => ?_)
        · rw [decide_eq_true z] at h
          cases h
          exact hK
        · rw [decide_eq_false z] at h
          cases h
          exact hK
      · cases h
    | _ => cases h
  | newarray t =>
    obtain ⟨e1, e2⟩ := of_decide_eq_true hl; subst e1
    replace h : (match (generalizing := false) st with | .inl n :: st => (bif co_i32 n && decide (0 ≤ n ∧ n.toNat < 10000) && (decide (co_off (co_kof σ.1) = σ.1) && (decide (2 ≤ co_kof σ.1 ∧ co_kof σ.1 < 69) && (decide (ma_ck (co_kof σ.1) = (co_at t, n.toNat, 1)) && co_zero σ (co_kof σ.1)))) then some (Sum.inl (none, ls, ma_Rf (co_kof σ.1) 0 :: st, co_new σ n.toNat)) else none) | _ => none) = some out := h
    split at h
    · rename_i n st'
      obtain ⟨h1, h⟩ := co_bif h
      simp only [Bool.and_eq_true, decide_eq_true_eq] at h1
      obtain ⟨⟨-, h2⟩, h3, h4, h5, h6⟩ := h1
      cases h
      exact co_newarr C hd h3 h4 h5 h6 h2 e2 hn hRo hK
    · cases h
  | multianewarray i n =>
    obtain ⟨e1, rfl, e2, e3, e4⟩ := of_decide_eq_true hl; subst e1
    replace h : (match (generalizing := false) st with | .inl n2 :: .inl n1 :: st => (bif co_i32 n1 && (co_i32 n2 && (decide (0 < n1 ∧ 0 ≤ n2 ∧ n1.toNat < 10000 ∧ n2.toNat < 10000) && (decide (co_off (co_kof σ.1) = σ.1 ∧ co_off (co_kof σ.1 + 1) = σ.1 + 1) && (decide (2 ≤ co_kof σ.1 ∧ co_kof σ.1 + 1 < 69) && (decide (ma_ck (co_kof σ.1) = (pp, n1.toNat, 1)) && decide (ma_ck (co_kof σ.1 + 1) = (pp - 5, n2.toNat, n1.toNat))))))) then some (Sum.inl (none, ls, ma_Rf (co_kof σ.1) 0 :: st, (σ.1 + 1 + n1.toNat, σ.2.1 + n1.toNat + n1.toNat * n2.toNat, σ.2.2))) else none) | _ => none) = some out := h
    split at h
    · rename_i n2 n1 st'
      obtain ⟨h1, h⟩ := co_bif h
      simp only [Bool.and_eq_true, decide_eq_true_eq] at h1
      obtain ⟨-, -, h2, h3, h4, h5, h6⟩ := h1
      cases h
      exact co_multi (d9 := pp - 5) C hd e2 ⟨by omega, by omega⟩ h3 h4 h5 h6 h2 hn hRo hK
    · cases h
  | new i =>
    obtain ⟨e1, e2, e3⟩ := of_decide_eq_true hl; subst e1
    replace h : (bif decide (co_off (co_kof σ.1) = σ.1) && (decide (2 ≤ co_kof σ.1 ∧ co_kof σ.1 < 69) && (decide ((ma_ck (co_kof σ.1)).1 = 10 + pp ∧ (ma_ck (co_kof σ.1)).2.2 = 1) && σ.2.2.1.all (fun q => !decide (q.1 = co_kof σ.1)))) then some (Sum.inl (none, ls, ma_Rf (co_kof σ.1) 0 :: st, co_new σ (ma_N pp))) else none) = some out := h
    obtain ⟨h1, h⟩ := co_bif h
    simp only [Bool.and_eq_true, decide_eq_true_eq] at h1
    obtain ⟨h3, h4, h5, h6⟩ := h1
    cases h
    refine co_newobj C hd e2 e3 h3 h4 h5 (fun f z => ?_) hn hRo hK
    have := List.all_eq_true.mp h6 _ z
    simp at this
  | getfield i =>
    obtain ⟨e1, e2, e3, e4⟩ := of_decide_eq_true hl; subst e1
    replace h : (match (generalizing := false) st with | .inr (.inr (.inl a)) :: st => (bif co_ok σ a.1 a.2 && (decide ((ma_ck a.1).1 = 10 + pp ∧ a.2 = 0 ∧ ma_fk pp q.toNat = 3) && decide ((a.1, q.toNat) ∈ σ.2.2.1)) then some (Sum.inl (none, ls, ma_Rf (ma_rf a.1 q.toNat) 0 :: st, σ)) else none) | _ => none) = some out := h
    split at h
    · rename_i a st'
      obtain ⟨h1, h⟩ := co_bif h
      simp only [Bool.and_eq_true, decide_eq_true_eq] at h1
      obtain ⟨h2, ⟨h3, h4, h5⟩, h6⟩ := h1
      cases h
      obtain ⟨a1, a2⟩ := a
      have h4 : a2 = 0 := h4
      subst h4
      exact co_get C hd (co_ok_in h2) h3 e3 e4 e2 h5 h6 hK
    · cases h
  | putfield i =>
    obtain ⟨e1, e2, e3, e4, e5, e6⟩ := of_decide_eq_true hl; subst e1
    replace h : (match (generalizing := false) st with
      | .inr (.inr (.inl b)) :: .inr (.inr (.inl a)) :: st => (bif co_ok σ a.1 a.2 && (decide ((ma_ck a.1).1 = 10 + pp ∧ a.2 = 0 ∧ b.2 = 0) && (decide (ma_fk pp q.toNat = 3 ∧ b.1 = ma_rf a.1 q.toNat) || decide (ma_fk pp q.toNat = 4 ∧ b.1 = co_dyn q.toNat))) then some (Sum.inl (none, ls, st, (σ.1, σ.2.1, (a.1, q.toNat) :: σ.2.2.1, σ.2.2.2))) else none)
      | .inl v :: .inr (.inr (.inl a)) :: st => (bif co_ok σ a.1 a.2 && decide ((ma_ck a.1).1 = 10 + pp ∧ v = 0 ∧ ma_fk pp q.toNat = 0) then some (Sum.inl (none, ls, st, σ)) else none)
      | _ => none) = some out := h
    split at h
    · rename_i b a st'
      obtain ⟨h1, h⟩ := co_bif h
      simp only [Bool.and_eq_true, Bool.or_eq_true, decide_eq_true_eq] at h1
      obtain ⟨h2, ⟨h3, h4, h5⟩, h6⟩ := h1
      cases h
      obtain ⟨a1, a2⟩ := a
      obtain ⟨b1, b2⟩ := b
      have h4 : a2 = 0 := h4
      have h5 : b2 = 0 := h5
      subst h4; subst h5
      exact co_put C (hini e6) e5 hd (co_ok_in h2) h3 (co_one pp a1 h3 (co_ok_in h2)) e3 e4 e2 h6 hK
    · rename_i v a st'
      obtain ⟨h1, h⟩ := co_bif h
      simp only [Bool.and_eq_true, decide_eq_true_eq] at h1
      obtain ⟨h2, h3, h4, h5⟩ := h1
      cases h
      subst h4
      obtain ⟨a1, a2⟩ := a
      have h9 := co_one pp a1 h3 (co_ok_in h2)
      have h10 : a2 = 0 := by
        have := (co_ok_in h2).1.2
        dsimp only at this
        omega
      subst h10
      exact co_put0 C (hini e6) e5 hd (co_ok_in h2) h3 h9 e3 e4 e2 h5 hK
    · cases h
  | iaload =>
    have e1 := of_decide_eq_true hl; subst e1
    replace h : (match (generalizing := false) st with
      | .inl i :: .inr (.inr (.inl a)) :: st => (bif co_ok σ a.1 a.2 && (decide ((ma_ck a.1).1 = 0 ∧ 0 ≤ i ∧ i < ((ma_ck a.1).2.1 : Int)) && co_i32 (co_mem σ a.1 i)) then some (Sum.inl (none, ls, ma_I (co_mem σ a.1 i) :: st, σ)) else none)
      | _ => none) = some out := h
    split at h
    · rename_i i a st'
      obtain ⟨h1, h⟩ := co_bif h
      simp only [Bool.and_eq_true, decide_eq_true_eq] at h1
      obtain ⟨h2, ⟨h3, h4⟩, h6⟩ := h1
      cases h
      exact co_iald C hd (co_ok_in h2) h3 h4 (co_i32_r h6) hK
    · cases h
  | iastore =>
    have e1 := of_decide_eq_true hl; subst e1
    replace h : (match (generalizing := false) st with
      | .inl v :: .inl i :: .inr (.inr (.inl a)) :: st => (bif co_ok σ a.1 a.2 && decide ((ma_ck a.1).1 = 0 ∧ 0 ≤ i ∧ i < ((ma_ck a.1).2.1 : Int)) then
        (bif decide (a.1 = 109) && decide (i.toNat < σ.2.2.2.1.length) then some (Sum.inl (none, ls, st, (σ.1, σ.2.1, σ.2.2.1, σ.2.2.2.1.set i.toNat v, σ.2.2.2.2)))
        else bif decide (a.1 = 110) && decide (i.toNat < σ.2.2.2.2.length) then some (Sum.inl (none, ls, st, (σ.1, σ.2.1, σ.2.2.1, σ.2.2.2.1, σ.2.2.2.2.set i.toNat v))) else none) else none)
      | _ => none) = some out := h
    split at h
    · rename_i v i a st'
      obtain ⟨h1, h⟩ := co_bif h
      simp only [Bool.and_eq_true, decide_eq_true_eq] at h1
      obtain ⟨h2, h3, h4⟩ := h1
      obtain ⟨a1, a2⟩ := a
      dsimp only at h h2 h3 h4
      have key : ∀ (L : List Int) (j : Nat), i.toNat < L.length → (L.set i.toNat v).getD j 0 = if (j : Int) = i then v else L.getD j 0 := by
        intro L j hj
        rw [List.getD_eq_getElem?_getD, List.getElem?_set, List.getD_eq_getElem?_getD]
        by_cases e : i.toNat = j
        · rw [if_pos e, if_pos hj, if_pos (by omega)]; rfl
        · rw [if_neg e, if_neg (by omega)]
      have h10 : ∀ z : a1 = 109 ∨ a1 = 110, a2 = 0 := fun z => by
        have h9 := (co_ok_in h2).1.2
        have h8 : (ma_ck a1).2.2 = 1 := by have := (co_ok_in h2).1.1; omega
        rw [h8] at h9
        omega
      by_cases c1 : (decide (a1 = 109) && decide (i.toNat < σ.2.2.2.1.length)) = true
      · rw [c1] at h
        cases h
        simp only [Bool.and_eq_true, decide_eq_true_eq] at c1
        obtain ⟨c1, c2⟩ := c1
        have := h10 (Or.inl c1); subst this
        subst c1
        exact co_iast (σ' := (σ.1, σ.2.1, σ.2.2.1, σ.2.2.2.1.set i.toNat v, σ.2.2.2.2)) C hd (co_ok_in h2) h3 (absurd (co_ok_in h2).1.1 (by decide)) h4 ⟨rfl, rfl⟩ rfl (fun k' i' hk' => by unfold co_mem; rw [if_neg hk', if_neg hk']) (fun j => key _ j c2) hK
      · rw [Bool.not_eq_true] at c1
        rw [c1] at h
        obtain ⟨c3, h⟩ := co_bif (show (bif decide (a1 = 110) && decide (i.toNat < σ.2.2.2.2.length) then some (Sum.inl (none, ls, st', (σ.1, σ.2.1, σ.2.2.1, σ.2.2.2.1, σ.2.2.2.2.set i.toNat v))) else none) = some out from h)
        cases h
        simp only [Bool.and_eq_true, decide_eq_true_eq] at c3
        obtain ⟨c3, c2⟩ := c3
        have := h10 (Or.inr c3); subst this
        subst c3
        exact co_iast (σ' := (σ.1, σ.2.1, σ.2.2.1, σ.2.2.2.1, σ.2.2.2.2.set i.toNat v)) C hd (co_ok_in h2) h3 (absurd (co_ok_in h2).1.1 (by decide)) h4 ⟨rfl, rfl⟩ rfl (fun k' i' hk' => by unfold co_mem; rw [if_neg hk', if_neg hk']) (fun j => key _ j c2) hK
    · cases h
  | invokespecial i =>
    obtain ⟨e1, e2⟩ := of_decide_eq_true hl; subst e1
    replace h : (bif decide (pp = 99) then (match (generalizing := false) st with | .inr (.inr (.inl _)) :: st => (bif decide (st.length ≤ 4) then some (Sum.inl (none, ls, st, σ)) else none) | _ => none)
      else (match (generalizing := false) ma_pop (co_na pp + 1) st [] with | some (.inr (.inr (.inl a)) :: as, rest) => (bif decide (rest.length ≤ 4) then (match (generalizing := false) call pp (ma_Rf a.1 a.2 :: as) σ with | some (none, σ') => some (Sum.inl (none, ls, rest, σ')) | _ => none) else none) | _ => none)) = some out := h
    rcases e2 with ⟨rfl, e2⟩ | ⟨e2, e3⟩
    · replace h : (match (generalizing := false) st with | .inr (.inr (.inl _)) :: st => (bif decide (st.length ≤ 4) then some (Sum.inl (none, ls, st, σ)) else none) | _ => none) = some out := h
      split at h
      · rename_i a st'
        obtain ⟨h1, h⟩ := co_bif h
        cases h
        exact co_objinit (a := a) C hd e2 (of_decide_eq_true h1) hR hK
      · cases h
    · rw [decide_eq_false (show ¬ pp = 99 by omega)] at h
      replace h : (match (generalizing := false) ma_pop (co_na pp + 1) st [] with | some (.inr (.inr (.inl a)) :: as, rest) => (bif decide (rest.length ≤ 4) then (match (generalizing := false) call pp (ma_Rf a.1 a.2 :: as) σ with | some (none, σ') => some (Sum.inl (none, ls, rest, σ')) | _ => none) else none) | _ => none) = some out := h
      split at h
      · rename_i a as rest hp
        obtain ⟨h1, h⟩ := co_bif h
        split at h
        · rename_i σ' hc
          cases h
          obtain ⟨⟨m1, m2⟩, hct⟩ := hcall pp _ _ _ _ (by omega) hc
          exact co_callI (nest := 0) rfl C hd e2 (e3.imp (fun z => ⟨rfl, z⟩) id) hp (of_decide_eq_true h1) hR hct ⟨hn.1, hn.2, m1, m2⟩ hRo hK
        · cases h
      · cases h
  | invokestatic i =>
    obtain ⟨e1, e2, e3, e4⟩ := of_decide_eq_true hl; subst e1
    replace h : (match (generalizing := false) ma_pop 1 st [] with | some (as, rest) => (bif decide (rest.length ≤ 4) then (match (generalizing := false) call pp as σ with | some (some v, σ') => some (Sum.inl (none, ls, v :: rest, σ')) | _ => none) else none) | none => none) = some out := h
    split at h
    · rename_i as rest hp
      obtain ⟨h1, h⟩ := co_bif h
      split at h
      · rename_i v σ' hc
        cases h
        obtain ⟨⟨m1, m2⟩, hct⟩ := hcall pp _ _ _ _ e3 hc
        exact co_callS C hd ⟨e2, e3⟩ e4 hp (of_decide_eq_true h1) hR hct ⟨hn.1, hn.2, m1, m2⟩ hRo hK
      · cases h
    · cases h
  | return_ =>
    have e1 := of_decide_eq_true hl; subst e1
    replace h : (match (generalizing := false) st with | [] => some (Sum.inr (none, σ)) | _ => none) = some out := h
    split at h
    · cases h
      intro H locs als vs hH hS hL hRS
      rw [ma_RS_nil hRS]
      exact hK hd H locs als hH hS
    · cases h
  | ireturn =>
    have e1 := of_decide_eq_true hl; subst e1
    replace h : (match (generalizing := false) st with | [.inl n] => some (Sum.inr (some (ma_I n), σ)) | _ => none) = some out := h
    split at h
    · rename_i n
      cases h
      intro H locs als vs hH hS hL hRS
      obtain ⟨_, vs, rfl, ⟨x, rfl, hx⟩, hR1⟩ := ma_RS_cons hRS
      rw [ma_RS_nil hR1]
      exact hK hd H locs als x (by rw [hx]) hH hS
    · cases h
  | _ => cases hl
end CPT
def co_sz : co_Z → co_S
  | .inl z => z.2.2
  | .inr z => z.2
theorem co_bif2 {α : Type} {b : Bool} {x y : Option α} {z : α} (h : (bif b then x else y) = some z) : x = some z ∨ y = some z := by
  cases b
  · exact Or.inr h
  · exact Or.inl h
theorem co_mono_step {call : co_C} {a : co_AI} {ls st : List ma_V} {σ : co_S} {out : co_O} (hc : ∀ y as σ v σ', call y as σ = some (v, σ') → σ.1 ≤ σ'.1 ∧ σ.2.1 ≤ σ'.2.1) (h : co_step call a ls st σ = some out) : σ.1 ≤ (co_so out).1 ∧ σ.2.1 ≤ (co_so out).2.1 := by
  obtain ⟨pc, len, ins, pp, q⟩ := a
  unfold co_step at h
  dsimp only at h
  have rf : ∀ {o : co_O}, some o = some out → co_so o = σ → σ.1 ≤ (co_so out).1 ∧ σ.2.1 ≤ (co_so out).2.1 := fun h1 h2 => by
    cases h1; rw [h2]; exact ⟨Nat.le_refl _, Nat.le_refl _⟩
  split at h
  all_goals repeat' (first | (split at h) | (with_reducible (replace h := co_bif2 h; rcases h with h | h)))
  all_goals first
    | exact rf h rfl
    | (cases h; done)
    | (cases h; exact ⟨Nat.le_add_right _ _, Nat.le_add_right _ _⟩)
    | (cases h; exact ⟨by show _ ≤ _ + 1 + _; omega, by show σ.2.1 ≤ σ.2.1 + _ + _; omega⟩)
    | (cases h; exact ⟨Nat.le_refl _, Nat.le_refl _⟩)
    | (rename_i h9; cases h; exact hc _ _ _ _ _ h9)
    | (cases h; rename_i h9; exact hc _ _ _ _ _ h9)
theorem co_mono_go {call : co_C} (hc : ∀ y as σ v σ', call y as σ = some (v, σ') → σ.1 ≤ σ'.1 ∧ σ.2.1 ≤ σ'.2.1) {code : List co_AI} {z : co_Z} : ∀ (n : Nat) (cs : List co_AI) (ls st : List ma_V) (σ : co_S), co_go call code n cs ls st σ = some z → σ.1 ≤ (co_sz z).1 ∧ σ.2.1 ≤ (co_sz z).2.1
  | 0, cs, ls, st, σ, h => by cases h
  | n + 1, [], ls, st, σ, h => by cases h; exact ⟨Nat.le_refl _, Nat.le_refl _⟩
  | n + 1, a :: cs, ls, st, σ, h => by
    unfold co_go at h
    split at h
    · rename_i ls' st' σ' hs
      have h1 := co_mono_step hc hs
      have h2 := co_mono_go hc n _ _ _ _ h
      exact ⟨Nat.le_trans h1.1 h2.1, Nat.le_trans h1.2 h2.2⟩
    · rename_i t ls' st' σ' hs
      split at h
      · cases h
      · have h1 := co_mono_step hc hs
        have h2 := co_mono_go hc n _ _ _ _ h
        exact ⟨Nat.le_trans h1.1 h2.1, Nat.le_trans h1.2 h2.2⟩
    · rename_i z' hs
      cases h
      exact co_mono_step hc hs
    · cases h
def co_chk (cc : ByteArray) (o : Nat) (ini : Bool) (pe : Nat) : Nat → List co_AI → Bool
  | pc, [] => decide (pc = pe)
  | pc, a :: cs => decide (a.1 = pc) && (co_okb cc o ini a && co_chk cc o ini pe (pc + a.2.1) cs)
theorem co_from_chk {cc : ByteArray} {o : Nat} {ini : Bool} {pe t : Nat} : ∀ (pc : Nat) (cs : List co_AI) (b : co_AI) (bs : List co_AI), co_chk cc o ini pe pc cs = true → co_from t cs = b :: bs → co_chk cc o ini pe t (b :: bs) = true
  | pc, [], b, bs, _, h => by cases h
  | pc, a :: cs, b, bs, hc, h => by
    have hc9 := hc
    unfold co_chk at hc9
    simp only [Bool.and_eq_true, decide_eq_true_eq] at hc9
    unfold co_from at h
    cases he : Nat.beq a.1 t with
    | true =>
      rw [he] at h
      have h : a :: cs = b :: bs := h
      rw [← h]
      have : a.1 = t := Nat.eq_of_beq_eq_true he
      rw [← this, hc9.1]
      exact hc
    | false =>
      rw [he] at h
      exact co_from_chk _ cs b bs hc9.2.2 h
/-- what a run owes at its end -/
def co_fin (p : Program) (l : Launch) (e : Env) (R : Room) (s : State) (m : MethodId) (args : Array Value) (below : List Frame) (meth : Method) (c : Code) (Q : State → Prop) (G : ma_G) (cc : ByteArray) (nL n0 s0 pe : Nat) : co_Z → Prop
  | .inl (ls, st, σ') => co_W p l e R s m args below meth c Q G nL n0 s0 pe ls st σ'
  | .inr (none, σ') => ∀ (pc : Nat), decode cc pc = .ok (.return_, 1) → ∀ (H : Heap) (locs : List Loc) (als : Array Slot), co_H G σ' H → va_S (ma_A G) s.heap H locs → W p l e R s m args below meth c H locs (σ'.1 - n0) (σ'.2.1 - s0) Q (F0 m pc als [])
  | .inr (some v, σ') => ∀ (pc : Nat), decode cc pc = .ok (.ireturn, 1) → ∀ (H : Heap) (locs : List Loc) (als : Array Slot) (x : Int32), v = ma_I x.toInt → co_H G σ' H → va_S (ma_A G) s.heap H locs → W p l e R s m args below meth c H locs (σ'.1 - n0) (σ'.2.1 - s0) Q (F0 m pc als [.int x])
section CPU
variable {p : Program} {l : Launch} {e : Env} {R : Room} {s : State} {m : MethodId} {args : Array Value} {below : List Frame} {meth : Method} {c : Code} {Q : State → Prop} {G : ma_G} {cc : ByteArray} {o nL n0 s0 d pe : Nat} {call : co_C}
theorem co_s_go (ini : Bool) (C : co_Cx p s m args c G cc o nL) (hini : ini = true → meth.name = "<init>") (hR : d + 11 ≤ R.frames ∧ 43 * (d + 1) + 200 ≤ R.locals) (hm : ∀ y as σ v σ', call y as σ = some (v, σ') → σ.1 ≤ σ'.1 ∧ σ.2.1 ≤ σ'.2.1) (hcall : ∀ y as σ v σ', y < 11 → call y as σ = some (v, σ') → co_Ct l G d y as σ v σ')
    {code : List co_AI} {pc0 : Nat} (hcode : co_chk cc o ini pe pc0 code = true) {z : co_Z} (hz : (co_sz z).1 - n0 ≤ R.cells ∧ (co_sz z).2.1 - s0 ≤ R.slots) (hfin : co_fin p l e R s m args below meth c Q G cc nL n0 s0 pe z) :
    ∀ (n : Nat) (cs : List co_AI) (pc : Nat) (ls st : List ma_V) (σ : co_S), co_chk cc o ini pe pc cs = true → co_go call code n cs ls st σ = some z → n0 ≤ σ.1 ∧ s0 ≤ σ.2.1 → co_W p l e R s m args below meth c Q G nL n0 s0 pc ls st σ
  | 0, cs, pc, ls, st, σ, _, h, _ => by cases h
  | n + 1, [], pc, ls, st, σ, hk, h, hn => by
    cases h
    unfold co_chk at hk
    rw [of_decide_eq_true hk]
    exact hfin
  | n + 1, a :: cs, pc, ls, st, σ, hk, h, hn => by
    unfold co_chk at hk
    simp only [Bool.and_eq_true, decide_eq_true_eq] at hk
    obtain ⟨hpc, hok, hk⟩ := hk
    subst hpc
    unfold co_go at h
    split at h
    · rename_i ls' st' σ' hs
      have h1 := co_mono_step hm hs
      have h2 := co_mono_go hm n _ _ _ _ h
      have h1 : σ.1 ≤ σ'.1 ∧ σ.2.1 ≤ σ'.2.1 := h1
      refine co_s_step a ini C hok hini hR (fun y as σ v σ' hy hc => ⟨hm _ _ _ _ _ hc, hcall _ _ _ _ _ hy hc⟩) _ hs hn ⟨by show σ'.1 - n0 ≤ _; omega, by show σ'.2.1 - s0 ≤ _; omega⟩ ?_
      exact co_s_go ini C hini hR hm hcall hcode hz hfin n cs _ ls' st' σ' hk h ⟨by omega, by omega⟩
    · rename_i t ls' st' σ' hs
      split at h
      · cases h
      · rename_i b bs hfr
        have h1 := co_mono_step hm hs
        have h2 := co_mono_go hm n _ _ _ _ h
        have h1 : σ.1 ≤ σ'.1 ∧ σ.2.1 ≤ σ'.2.1 := h1
        refine co_s_step a ini C hok hini hR (fun y as σ v σ' hy hc => ⟨hm _ _ _ _ _ hc, hcall _ _ _ _ _ hy hc⟩) _ hs hn ⟨by show σ'.1 - n0 ≤ _; omega, by show σ'.2.1 - s0 ≤ _; omega⟩ ?_
        exact co_s_go ini C hini hR hm hcall hcode hz hfin n (b :: bs) t ls' st' σ' (co_from_chk _ _ _ _ hcode hfr) h ⟨by omega, by omega⟩
    · rename_i z' hs
      cases h
      have h1 := co_mono_step hm hs
      refine co_s_step a ini C hok hini hR (fun y as σ v σ' hy hc => ⟨hm _ _ _ _ _ hc, hcall _ _ _ _ _ hy hc⟩) _ hs hn hz ?_
      obtain ⟨v, σ'⟩ := z'
      cases v with
      | none => exact fun hd => hfin _ hd
      | some v => exact fun hd => hfin _ hd
    · cases h
end CPU
theorem co_chk_all : ∀ y, y < 11 → co_chk (co_b y) (co_o y) (decide (y < 11)) (co_end 0 (co_pg y)) 0 (co_pg y) = true := by decide +kernel
theorem co_run_mono : ∀ (d y : Nat) (as : List ma_V) (σ : co_S) (v : Option ma_V) (σ' : co_S), co_run d y as σ = some (v, σ') → σ.1 ≤ σ'.1 ∧ σ.2.1 ≤ σ'.2.1
  | 0, y, as, σ, v, σ', h => by cases h
  | d + 1, y, as, σ, v, σ', h => by
    have h : (bif as.all ma_nU && decide ((ma_slots as).length ≤ co_nL y) then (match (generalizing := false) co_go (co_run d) (co_pg y) 100000 (co_pg y) (ma_entry (co_nL y) as) [] σ with
      | some (.inr z) => (bif decide (z.1.isSome = co_st y) then some z else none)
      | _ => none) else none) = some (v, σ') := h
    replace h := (co_bif h).2
    split at h
    · rename_i z hz
      replace h := (co_bif h).2
      cases h
      exact co_mono_go (fun y as σ v σ' h => co_run_mono d y as σ v σ' h) _ _ _ _ _ hz
    · cases h
theorem co_rn (d y : Nat) (as : List ma_V) (σ : co_S) (v : Option ma_V) (σ' : co_S) (h : co_run (d + 1) y as σ = some (v, σ')) : as.all ma_nU = true ∧ (ma_slots as).length ≤ co_nL y ∧ co_go (co_run d) (co_pg y) 100000 (co_pg y) (ma_entry (co_nL y) as) [] σ = some (.inr (v, σ')) ∧ v.isSome = co_st y := by
  have h : (bif as.all ma_nU && decide ((ma_slots as).length ≤ co_nL y) then (match (generalizing := false) co_go (co_run d) (co_pg y) 100000 (co_pg y) (ma_entry (co_nL y) as) [] σ with
    | some (.inr z) => (bif decide (z.1.isSome = co_st y) then some z else none)
    | _ => none) else none) = some (v, σ') := h
  obtain ⟨h1, h⟩ := co_bif h
  rw [Bool.and_eq_true, decide_eq_true_eq] at h1
  split at h
  · rename_i z hz
    obtain ⟨h2, h⟩ := co_bif h
    cases h
    exact ⟨h1.1, h1.2, hz, of_decide_eq_true h2⟩
  · cases h
theorem co_run_ok (l : Launch) (G : ma_G) : ∀ (d y : Nat) (as : List ma_V) (σ : co_S) (v : Option ma_V) (σ' : co_S), y < 11 → co_run d y as σ = some (v, σ') → co_Ct l G d y as σ v σ'
  | 0, _, _, _, _, _, _, h => by cases h
  | d + 1, y, as, σ, v, σ', hy, h => by
    have hmono := co_run_mono _ _ _ _ _ _ h
    obtain ⟨hnu, hsl, hgo, hvs⟩ := co_rn _ _ _ _ _ _ h
    obtain ⟨hplain, hmh, hvh, hpar, hnl, ho1, ho2, ho3, hiA, hiB⟩ := co_cls_ok y hy
    unfold co_Ct
    refine Met.ofW hplain (ws' := ma_WG) (cc := co_b y) (maxL := co_nL y) (ret := co_rt y) rfl ?_
    intro p e s m args below meth c s₁ B hml hPc
    obtain ⟨⟨vl, rfl, hRS⟩, hH, hKX⟩ := hPc
    have hts := atoms_spec (ws := co_cw y :: ma_WG) B.pre
    have hown : s.vm.findClass (co_y y).cls = some m.cls := findClass_of_methodNamed B.named
    have C : co_Cx p s m vl.toArray c G (co_b y) (co_o y) (co_nL y) := ⟨B.exec, B.bytes, hml, by rw [← ho1]; exact hown, fun w hw => hts w (List.mem_cons_of_mem _ hw), hKX⟩
    have hin : (decide (y < 11)) = true → meth.name = "<init>" := fun z => ((name_of_methodNamed B.named B.method).1).trans (hiA (of_decide_eq_true z)).1
    have hr := B.returns
    have hlocks := B.notSynchronized
    rw [lg_entry_eq]
    have key := co_s_go (R := (headSpec (co_cw y :: ma_WG) (co_rm (d + 1) (σ'.1 - σ.1) (σ'.2.1 - σ.2.1))).room) (e := e) (l := l) (below := below) (meth := meth) (Q := MQ below (co_Qc G v σ') vl.toArray s (σ'.1 - σ.1) (σ'.2.1 - σ.2.1) (ma_A G)) (n0 := σ.1) (s0 := σ.2.1) (d := d) (pe := co_end 0 (co_pg y)) (call := co_run d) (decide (y < 11)) C hin ⟨by show d + 11 ≤ d + 1 + 10; omega, by show 43 * (d + 1) + 200 ≤ 43 * (d + 1) + 200; omega⟩ (co_run_mono d) (fun y as σ v σ' hy hc => co_run_ok l G d y as σ v σ' hy hc) (co_chk_all y hy) (z := .inr (v, σ')) ⟨Nat.le_refl _, Nat.le_refl _⟩ ?_ 100000 (co_pg y) 0 (ma_entry (co_nL y) as) [] σ (co_chk_all y hy) hgo ⟨Nat.le_refl _, Nat.le_refl _⟩ s.heap [] _ [] hH va_S.rf (ma_entry_RL hRS hnu hsl) trivial
    · rw [Nat.sub_self, Nat.sub_self] at key
      exact key
    · cases v with
      | none =>
        intro pc hd H locs als hH' hS'
        by_cases h12 : y < 11
        · exact W.vret C.1 C.2.1 (hr.trans (hiA h12).2.2) (fun t ht hW => ⟨⟨(), rfl, trivial, by show co_H G σ' t.heap; rw [ht]; exact hH'⟩, hS'.F ht⟩) hS'.2.2 hd (hlocks := hlocks)
        · have := (hiB (by omega)).1
          rw [← hvs] at this
          cases this
      | some w =>
        intro pc hd H locs als x hx hH' hS'
        by_cases h12 : 11 ≤ y
        · exact W.iret (v := x) C.1 C.2.1 (hr.trans (hiB h12).2.1) (fun t ht hW => ⟨⟨x, (), rfl, hx, by show co_H G σ' t.heap; rw [ht]; exact hH'⟩, hS'.F ht⟩) hS'.2.2 hd (hlocks := hlocks)
        · have := (hiA (by omega)).2.1
          rw [← hvs] at this
          cases this
