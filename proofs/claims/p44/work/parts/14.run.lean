/-! bodies: what runs on the small machine runs on the JVM -/
def ma_okB (cc : ByteArray) (o : Nat) : List ma_AI → Nat → Bool
  | [], _ => true
  | a :: cs, pc => ma_okb cc o pc a && ma_okB cc o cs (pc + a.1)
abbrev ma_Tb := List (Nat × List Bool × List ma_AI)
def ma_at : ma_Tb → ma_B
  | [], _ => none
  | x :: t, pc => if pc = x.1 then some x.2 else ma_at t pc
def ma_chk (cc : ByteArray) (o nL : Nat) (t : ma_Tb) : Bool := t.all fun x => decide (x.2.1.length = nL) && ma_okB cc o x.2.2 x.1
theorem ma_at_mem : ∀ (t : ma_Tb) (pc : Nat) (b : List Bool × List ma_AI), ma_at t pc = some b → (pc, b) ∈ t
  | [], _, _, h => by cases h
  | x :: t, pc, b, h => by
    unfold ma_at at h
    by_cases hc : pc = x.1
    · rw [if_pos hc] at h
      cases h
      subst hc
      exact List.mem_cons_self
    · rw [if_neg hc] at h
      exact List.mem_cons_of_mem _ (ma_at_mem t pc b h)
theorem ma_chk_at {cc : ByteArray} {o nL : Nat} {t : ma_Tb} (h : ma_chk cc o nL t = true) {pc : Nat} {b : List Bool × List ma_AI} (hb : ma_at t pc = some b) : b.1.length = nL ∧ ma_okB cc o b.2 pc = true := by
  have h2 := List.all_eq_true.mp h _ (ma_at_mem t pc b hb)
  simp only [Bool.and_eq_true, decide_eq_true_eq] at h2
  exact h2
section RUN
variable {p : Program} {l : Launch} {e : Env} {R : Room} {s : State} {m : MethodId} {args : Array Value} {below : List Frame} {meth : Method} {c : Code} {Q : State → Prop} {G : ma_G} {cc : ByteArray} {o nL c0 s0 pc k pp : Nat} {qq : Int} {ls st : List ma_V} {μ : ma_M} {O : ma_O} {E : ma_E} {K : ma_K} {J : ma_J} {D : ma_Dn}
variable {d : Nat}
theorem ma_s_den (C : ma_Cx p s m args c G cc o nL) (hLn : nL = c.maxLocals) (hLS : E.1 = G.LS ∧ G.LS ≤ 2048)
    (hR : d + 11 ≤ R.frames ∧ 43 * (d + 1) + 200 ≤ R.locals) (hRo : ma_Ro R E c0 s0) (hO : ∀ y as μ Post, O y as μ Post → ma_Ct l G d y as μ Post)
    (hX : ma_hX p l e R s m args below meth c Q E) (hE : ma_hE p l e R s m args below meth c Q G cc o nL c0 s0 E D) (hJ : ∀ pc' ls st k μ, J pc' ls st k μ → ma_W p l e R s m args below meth c Q G nL c0 s0 pc' ls st k μ) :
    ∀ (cs : List ma_AI) (pc : Nat) (ls st : List ma_V) (k : Nat) (μ : ma_M), ma_okB cc o cs pc = true → ma_den O E cs pc ls st k μ J D → ma_W p l e R s m args below meth c Q G nL c0 s0 pc ls st k μ
  | [], pc, ls, st, k, μ, _, h => hJ _ _ _ _ _ h
  | a :: cs, pc, ls, st, k, μ, hok, h => by
    unfold ma_okB at hok
    rw [Bool.and_eq_true] at hok
    exact ma_s_all a C hLn hLS hok.1 hR hRo hO hX hE (fun ls st k μ h9 => ma_s_den C hLn hLS hR hRo hO hX hE hJ cs _ ls st k μ hok.2 h9) hJ h
theorem ma_s_run {t : ma_Tb} (C : ma_Cx p s m args c G cc o nL) (hLn : nL = c.maxLocals) (hLS : E.1 = G.LS ∧ G.LS ≤ 2048) (hchk : ma_chk cc o nL t = true)
    (hR : d + 11 ≤ R.frames ∧ 43 * (d + 1) + 200 ≤ R.locals) (hRo : ma_Ro R E c0 s0) (hO : ∀ y as μ Post, O y as μ Post → ma_Ct l G d y as μ Post)
    (hX : ma_hX p l e R s m args below meth c Q E) (hE : ma_hE p l e R s m args below meth c Q G cc o nL c0 s0 E D) (h : ma_run O E (ma_at t) D pc ls st k μ) : ma_W p l e R s m args below meth c Q G nL c0 s0 pc ls st k μ := by
  refine h (fun pc ls st k μ => ma_W p l e R s m args below meth c Q G nL c0 s0 pc ls st k μ) (fun pc b ls st k μ hb hd => ?_)
  obtain ⟨h1, h2⟩ := ma_chk_at hchk hb
  have h3 := ma_s_den C hLn hLS hR hRo hO hX hE (fun _ _ _ _ _ z => z) b.2 pc _ st k μ h2 hd
  intro H locs als vs hH hS hL hR9
  exact h3 H locs als vs hH hS (hL.msk h1) hR9
end RUN
/-- the entry of a body -/
def ma_nU (v : ma_V) : Bool := match v with | .inr (.inr (.inr (.inr (.inr (.inr _))))) => false | _ => true
theorem ma_nU_ne {v : ma_V} (h : ma_nU v = true) : v ≠ ma_U := fun z => by rw [z] at h; cases h
theorem ma_sl_len {G : ma_G} : ∀ {as : List ma_V} {vl : List Value}, ma_RS G as vl → as.all ma_nU = true → (lg_sl vl).length = (ma_slots as).length
  | [], vl, h, _ => by rw [ma_RS_nil h]; rfl
  | a :: as, vl, h, hn => by
    obtain ⟨w, ws, rfl, h1, h2⟩ := ma_RS_cons h
    rw [List.all_cons, Bool.and_eq_true] at hn
    have ih := ma_sl_len h2 hn.2
    have hc := ma_Rv_cat h1 (ma_nU_ne hn.1)
    show (List.flatMap _ (w :: ws)).length = _
    rw [List.flatMap_cons, List.length_append]
    cases ha : ma_c2 a with
    | true =>
      rw [if_pos (hc.mp ha)]
      simp only [ma_slots, ha, List.length_cons, List.length_nil]
      have : (lg_sl ws).length = (ma_slots as).length := ih
      unfold lg_sl at this
      omega
    | false =>
      rw [if_neg (fun z => by rw [hc.mpr z] at ha; cases ha)]
      simp only [ma_slots, ha, List.length_cons, List.length_nil]
      have : (lg_sl ws).length = (ma_slots as).length := ih
      unfold lg_sl at this
      omega
theorem ma_sl_at {G : ma_G} : ∀ {as : List ma_V} {vl : List Value}, ma_RS G as vl → as.all ma_nU = true → ∀ (i : Nat) (v : ma_V), (ma_slots as)[i]? = some v → v = ma_U ∨ ∃ w, (lg_sl vl)[i]? = some (.val w) ∧ ma_Rv G v w
  | [], vl, h, _, i, v, hv => by simp [ma_slots] at hv
  | a :: as, vl, h, hn, i, v, hv => by
    obtain ⟨w, ws, rfl, h1, h2⟩ := ma_RS_cons h
    rw [List.all_cons, Bool.and_eq_true] at hn
    have hc := ma_Rv_cat h1 (ma_nU_ne hn.1)
    have e : lg_sl (w :: ws) = (if w.category = 2 then [.val w, .second] else [.val w]) ++ lg_sl ws := by
      unfold lg_sl
      rw [List.flatMap_cons]
    rw [e]
    cases ha : ma_c2 a with
    | true =>
      rw [if_pos (hc.mp ha)]
      simp only [ma_slots, ha] at hv
      match i, hv with
      | 0, hv => cases hv; exact Or.inr ⟨w, rfl, h1⟩
      | 1, hv => cases hv; exact Or.inl rfl
      | i + 2, hv => exact ma_sl_at h2 hn.2 i v hv
    | false =>
      rw [if_neg (fun z => by rw [hc.mpr z] at ha; cases ha)]
      simp only [ma_slots, ha] at hv
      match i, hv with
      | 0, hv => cases hv; exact Or.inr ⟨w, rfl, h1⟩
      | i + 1, hv => exact ma_sl_at h2 hn.2 i v hv
theorem ma_entry_RL {G : ma_G} {as : List ma_V} {vl : List Value} {nL : Nat} (h : ma_RS G as vl) (hn : as.all ma_nU = true) (hl : (ma_slots as).length ≤ nL) : ma_RL G nL (ma_entry nL as) ((lg_sl vl ++ List.replicate (nL - (lg_sl vl).length) Slot.unset).toArray) := by
  have e := ma_sl_len h hn
  have h3 := lv_entry vl (n := nL) (by omega)
  refine ⟨?_, h3.1, h3.2.1, fun i v hv => ?_⟩
  · unfold ma_entry
    rw [List.length_append, List.length_replicate]
    omega
  · unfold ma_entry at hv
    by_cases hi : i < (ma_slots as).length
    · rw [List.getElem?_append_left hi] at hv
      rcases ma_sl_at h hn i v hv with q | ⟨w, q1, q2⟩
      · exact Or.inl q
      · refine Or.inr ⟨w, ?_, q2⟩
        rw [List.getElem?_toArray, List.getElem?_append_left (by omega)]
        exact q1
    · rw [List.getElem?_append_right (by omega)] at hv
      have := List.mem_of_getElem? hv
      exact Or.inl (List.eq_of_mem_replicate this)
/-- handlers -/
theorem ma_caught : ∀ (hh hc : List (Nat × Nat × Nat × Nat)) (pc e9 h9 : Nat), hh.length = hc.length → (∀ q ∈ hh.zip hc, q.1.1 = q.2.1 ∧ q.1.2.1 = q.2.2.1 ∧ q.1.2.2.1 = q.2.2.2.1 ∧ (q.2.2.2.2, q.1.2.2.2) ∈ ma_hl ∧ q.1.2.2.2 < 5 ∧ q.2.2.2.2 ≠ 0) → ma_catch hh pc e9 = some h9 →
    ∃ (pre : List ExceptionTableEntry) (x : ExceptionTableEntry) (suf : List ExceptionTableEntry), tableOf hc = pre ++ x :: suf ∧ (∀ z ∈ pre, covers z pc = false ∨ (z.catchType ≠ 0 ∧ ∃ c9, (z.catchType, c9) ∈ ma_hl ∧ c9 < 5 ∧ e9 ≠ c9)) ∧ covers x pc = true ∧ x.handlerPc = h9 ∧ (x.catchType, e9) ∈ ma_hl ∧ x.catchType ≠ 0
  | [], hc, pc, e9, h9, _, _, h => by cases h
  | a :: hh, [], pc, e9, h9, hl, _, h => by simp at hl
  | (f, t, hd, c9) :: hh, (f2, t2, hd2, ct) :: hc, pc, e9, h9, hl, hq, h => by
    obtain ⟨q1, q2, q3, q4, q5, q6⟩ := hq ((f, t, hd, c9), (f2, t2, hd2, ct)) (by rw [List.zip_cons_cons]; exact List.mem_cons_self)
    dsimp only at q1 q2 q3 q4 q5 q6
    subst q1; subst q2; subst q3
    unfold ma_catch at h
    by_cases hcc : f ≤ pc ∧ pc < t ∧ c9 = e9
    · rw [if_pos hcc] at h
      cases h
      obtain ⟨c1, c2, rfl⟩ := hcc
      exact ⟨[], ⟨f, t, hd, ct⟩, tableOf hc, rfl, fun z hz => (by cases hz), by simp [covers, c1, c2], rfl, q4, q6⟩
    · rw [if_neg hcc] at h
      obtain ⟨pre, x, suf, g1, g2, g3⟩ := ma_caught hh hc pc e9 h9 (by simpa using hl) (fun q hq9 => hq q (by rw [List.zip_cons_cons]; exact List.mem_cons_of_mem _ hq9)) h
      refine ⟨⟨f, t, hd, ct⟩ :: pre, x, suf, by show ⟨f, t, hd, ct⟩ :: tableOf hc = _; rw [g1]; rfl, fun z hz => ?_, g3⟩
      rcases List.mem_cons.mp hz with rfl | hz
      · by_cases hcv : f ≤ pc ∧ pc < t
        · exact Or.inr ⟨q6, c9, q4, q5, fun z => hcc ⟨hcv.1, hcv.2, z.symm⟩⟩
        · refine Or.inl ?_
          simp only [covers, Bool.and_eq_false_iff, decide_eq_false_iff_not]
          by_cases z : f ≤ pc
          · exact Or.inr (fun z2 => hcv ⟨z, z2⟩)
          · exact Or.inl z
      · exact g2 z hz
def ma_hok (y : Nat) : Bool := decide ((ma_hh y).length = (ma_hc y).length) && ((ma_hh y).zip (ma_hc y)).all fun q => decide (q.1.1 = q.2.1 ∧ q.1.2.1 = q.2.2.1 ∧ q.1.2.2.1 = q.2.2.2.1 ∧ (q.2.2.2.2, q.1.2.2.2) ∈ ma_hl ∧ q.1.2.2.2 < 5 ∧ q.2.2.2.2 ≠ 0)
theorem ma_hok_all : ∀ y, y < ma_nM → ma_hok y = true := by decide +kernel
theorem ma_hcls : ∀ y, y < ma_nM → (ma_hh y ≠ [] → (ma_y y).cls = "LatticefitLaw") := by decide +kernel
theorem ma_cst_ok : ∀ e, e < 5 → (ma_ex e, ma_ex e) ∈ ma_cst := by decide +kernel
theorem ma_ret_ok : ∀ y, y < ma_nM → (ma_rk y = 0 → ma_ret y = none) ∧ (ma_rk y = 1 → ma_ret y = some .int) ∧ (ma_rk y = 2 → ma_ret y = some .boolean) ∧ (ma_rk y = 3 → ma_ret y = some .char) ∧ (ma_rk y = 4 → ma_ret y = some .long) ∧ (ma_rk y = 5 → ma_ret y = some .float) ∧ (ma_rk y = 6 → ma_ret y = some .double) := by decide +kernel
section BOD
variable {p : Program} {l : Launch} {e : Env} {R : Room} {s : State} {m : MethodId} {args : Array Value} {below : List Frame} {meth : Method} {c : Code} {Q : State → Prop} {G : ma_G} {cc : ByteArray} {o nL c0 s0 pc k pp : Nat} {qq : Int} {ls st : List ma_V} {μ : ma_M} {O : ma_O} {E : ma_E} {K : ma_K} {J : ma_J} {D : ma_Dn}
theorem ma_hX_of {y : Nat} (hy : y < ma_nM) (C : ma_Cx p s m args c G cc o nL) (ho : ma_own o = (ma_y y).cls) (hE : E.2.1 = ma_hh y) (hT : c.exceptionTable.toList = tableOf (ma_hc y)) : ma_hX p l e R s m args below meth c Q E := by
  intro pc e9 h9 hc he H locs cells slots ls rest q ce h1 h2 h3 h4
  rw [hE] at hc
  have hok := ma_hok_all y hy
  unfold ma_hok at hok
  rw [Bool.and_eq_true, decide_eq_true_eq] at hok
  obtain ⟨pre, x, suf, g1, g2, g3, g4, g5, g6⟩ := ma_caught _ _ pc e9 h9 hok.1 (fun q hq => by simpa only [decide_eq_true_eq] using List.all_eq_true.mp hok.2 q hq) hc
  have hne : ma_hh y ≠ [] := fun z => by rw [z] at hc; cases hc
  have hcl := ma_hcls y hy hne
  have hown : s.vm.findClass "LatticefitLaw" = some m.cls := by rw [← hcl, ← ho]; exact C.2.2.2.1
  have hw : ∀ ct c9, (ct, c9) ∈ ma_hl → (Cond.classLink "LatticefitLaw" ct (ma_ex c9)).before args s = true := fun ct c9 hm => C.2.2.2.2.1 _ (ma_WG_in (ma_hl_in _ (List.mem_map.mpr ⟨_, hm, rfl⟩)) (ma_hl_good _ (List.mem_map.mpr ⟨_, hm, rfl⟩)))
  refine vx_catch hown pre x suf (by rw [hT, g1]) (fun z hz => ?_) g3 g6 (hw _ _ g5) (va_Nw.use rfl (C.2.2.2.2.2.2.2.2.1 _ (List.mem_append_right _ (List.mem_append_left _ (List.mem_map.mpr ⟨_, ma_cst_ok e9 he, rfl⟩))))) h1 h2 h3 (by rw [g4]; exact h4)
  rcases g2 z hz with q | ⟨q1, c9, q2, q3, q4⟩
  · exact Or.inl q
  · exact Or.inr ⟨q1, _, hw _ _ q2, C.2.2.2.2.2.2.2.2.2.2.2.2 e9 c9 he q3 q4⟩
theorem ma_HR_grow {μ : ma_M} {H H1 : Heap} (h : ma_HR G s μ H) (hq : ∀ q : Nat, q < H.size → H1[q]? = H[q]?) : ma_HR G s μ H1 := fun k r hv => by
  obtain ⟨h1, h2, h3, h4⟩ := h k r hv
  have lt : ∀ {cell : Cell}, H[G.ad k r]? = some cell → H1[G.ad k r]? = some cell := fun {cell} z => by
    rw [hq _ (Array.getElem?_eq_some_iff.mp z).1]; exact z
  refine ⟨fun z => ⟨lt (h1 z).1, (h1 z).2⟩, fun z => lt (h2 z), fun z => ?_, fun ci z => ?_⟩
  · obtain ⟨cell, q1, q2⟩ := h3 z
    exact ⟨cell, lt q1, q2⟩
  · obtain ⟨⟨cell, q1, q2⟩, q3⟩ := h4 ci z
    exact ⟨⟨cell, lt q1, q2⟩, q3⟩
end BOD
