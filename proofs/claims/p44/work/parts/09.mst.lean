/-! one instruction of the small machine: fields, arrays, and what of the library is one step -/
theorem ma_ck_lt (k : Nat) : (ma_ck k).2.1 < 5000 := by
  unfold ma_ck
  rw [List.getD_eq_getElem?_getD]
  cases h : ma_cells[k]? with
  | none => decide
  | some x => exact (by decide +kernel : ∀ x ∈ ma_cells, x.2.1 < 5000) x (List.mem_of_getElem? h)
theorem ma_ck_out {k : Nat} (h : 71 ≤ k) : ma_ck k = (99, 0, 0) := by
  unfold ma_ck
  rw [List.getD_eq_getElem?_getD, List.getElem?_eq_none (by exact h)]
  rfl
theorem ma_k8 {k : Nat} (h : (ma_ck k).1 = 8) : k = 0 := by
  by_cases hk : k < 71
  · exact (by decide +kernel : ∀ k, k < 71 → (ma_ck k).1 = 8 → k = 0) k hk h
  · rw [ma_ck_out (by omega)] at h
    cases h
theorem ma_k7 {k : Nat} (h : (ma_ck k).1 = 7) : k = 1 := by
  by_cases hk : k < 71
  · exact (by decide +kernel : ∀ k, k < 71 → (ma_ck k).1 = 7 → k = 1) k hk h
  · rw [ma_ck_out (by omega)] at h
    cases h
theorem ma_len_ne {LS k : Nat} (h : (ma_ck k).1 ≠ 8) : ma_len LS k = (ma_ck k).2.1 := by
  unfold ma_len
  rw [if_neg (fun z => h (by rw [z]; rfl))]
theorem ma_ge2 {k : Nat} (h : (ma_ck k).1 ≤ 4 ∨ 10 ≤ (ma_ck k).1) : 2 ≤ k := by
  rcases k with _ | _ | k
  · rcases h with h | h <;> revert h <;> decide
  · rcases h with h | h <;> revert h <;> decide
  · omega
theorem ma_ofT {x : Int32} {v : Int} (h : x.toInt = v) : Int32.ofInt v = x := by rw [← h, ma_oI]
theorem ma_ofTL {x : Int64} {v : Int} (h : x.toInt = v) : Int64.ofInt v = x := by rw [← h, ma_oL]
theorem ma_b01 {x : Int32} (h : x.toInt = 0 ∨ x.toInt = 1) : x = 0 ∨ x = 1 := by
  rcases h with h | h
  · exact Or.inl (Int32.toInt_inj.mp (by rw [h]; rfl))
  · exact Or.inr (Int32.toInt_inj.mp (by rw [h]; rfl))
theorem ma_nbool {x : Int32} (h : x.toInt = 0 ∨ x.toInt = 1) : narrow .boolean (.int x) = .int x ∧ fits .boolean (.int x) = true := by
  rcases ma_b01 h with rfl | rfl <;> exact ⟨rfl, rfl⟩
theorem ma_nchar {x : Int32} (h : 0 ≤ x.toInt ∧ x.toInt < 65536) : narrow .char (.int x) = .int x := by
  have e : x = nI x.toInt.toNat := by
    apply Int32.toInt_inj.mp
    rw [nI_toInt (by omega)]
    omega
  have h2 := pk_charN (q := x.toInt.toNat) (by omega)
  rw [← e] at h2
  exact h2.1
section MST
variable {p : Program} {l : Launch} {e : Env} {R : Room} {s : State} {m : MethodId} {args : Array Value} {below : List Frame} {meth : Method} {c : Code} {Q : State → Prop} {G : ma_G} {cc : ByteArray} {o nL c0 s0 pc k pp : Nat} {qq : Int} {ls st : List ma_V} {μ : ma_M} {O : ma_O} {E : ma_E} {K : ma_K} {J : ma_J} {D : ma_Dn}
theorem ma_s_getfield {i : Nat} (hq : (o, i, pp, qq.toNat) ∈ ma_fl ∧ 0 ≤ qq ∧ pp < 11 ∧ qq.toNat < ma_N pp) (C : ma_Cx p s m args c G cc o nL) (hd : decode cc pc = .ok (.getfield i, 3)) (hK : ∀ ls st k μ, K ls st k μ → ma_W p l e R s m args below meth c Q G nL c0 s0 (pc + 3) ls st k μ) (hJ : ∀ pc' ls st k μ, J pc' ls st k μ → ma_W p l e R s m args below meth c Q G nL c0 s0 pc' ls st k μ) (h : ma_step O E (.getfield i) pp qq pc ls st k μ K J D) : ma_W p l e R s m args below meth c Q G nL c0 s0 pc ls st k μ := by
  have h : ma_pR st fun a r st => (ma_ck a).1 = 10 + pp ∧ (match ma_fk pp qq.toNat with
              | 0 => K ls (ma_I (μ a r qq) :: st) k μ
              | 1 => K ls (ma_L (μ a r qq) :: st) k μ
              | 2 => K ls (ma_I (μ a r qq) :: st) k μ
              | 3 => K ls (ma_Rf (ma_rf a qq.toNat) 0 :: st) k μ
              | 4 => K ls (ma_Rf (μ a r qq).toNat 0 :: st) k μ
              | _ => False) := h
  obtain ⟨hl, h0, hci, hf⟩ := hq
  obtain ⟨a, r, st, rfl, hc, h1⟩ := ma_pR_e h
  obtain ⟨f, rfl⟩ : ∃ f : Nat, qq = (f : Int) := ⟨qq.toNat, by omega⟩
  have hl : (o, i, pp, f) ∈ ma_fl := hl
  have hf : f < ma_N pp := hf
  intro H locs als vs hH hS hL hR
  obtain ⟨_, vs, rfl, ⟨rfl, hv⟩, hR1⟩ := ma_RS_cons hR
  have hv : ma_val G a r := hv
  have hcan := ((hH a r hv).2.2.2 pp hc).2 f hf
  refine ma_getF C hH hv hc hci hf hl hd ?_
  have key : ∀ v : ma_V, ma_Rv G v (ma_fv G μ a r pp f) → K ls (v :: st) k μ → W p l e R s m args below meth c H locs (c0 + k) (s0 + 6 * k) Q (F0 m (pc + 3) als (ma_fv G μ a r pp f :: vs)) := fun v hv hk => hK _ _ _ _ hk H locs als (_ :: vs) hH hS hL ⟨hv, hR1⟩
  have h2 : (match ma_fk pp f with
        | 0 => K ls (ma_I (μ a r (f : Int)) :: st) k μ
        | 1 => K ls (ma_L (μ a r (f : Int)) :: st) k μ
        | 2 => K ls (ma_I (μ a r (f : Int)) :: st) k μ
        | 3 => K ls (ma_Rf (ma_rf a f) 0 :: st) k μ
        | 4 => K ls (ma_Rf (μ a r (f : Int)).toNat 0 :: st) k μ
        | _ => False) := h1
  unfold ma_fcan at hcan
  unfold ma_fv at key ⊢
  generalize ma_fk pp f = n at h2 hcan key ⊢
  match n, h2, hcan, key with
  | 0, h, hcan, key => exact key (ma_I (μ a r f)) ⟨_, rfl, ma_back hcan⟩ h
  | 1, h, hcan, key => exact key (ma_L (μ a r f)) ⟨_, rfl, ma_backL hcan⟩ h
  | 2, h, hcan, key => exact key (ma_I (μ a r f)) ⟨_, rfl, ma_back hcan⟩ h
  | 3, h, hcan, key => exact key (ma_Rf (ma_rf a f) 0) ⟨rfl, hcan⟩ h
  | 4, h, hcan, key => exact key (ma_Rf (μ a r f).toNat 0) ⟨rfl, hcan⟩ h
  | n + 5, h, hcan, key => exact h.elim
theorem ma_s_putfield {i : Nat} (hq : (o, i, pp, qq.toNat) ∈ ma_fl ∧ 0 ≤ qq ∧ pp < 11 ∧ qq.toNat < ma_N pp ∧ (ma_T pp qq.toNat).2.2.2 = false) (C : ma_Cx p s m args c G cc o nL) (hd : decode cc pc = .ok (.putfield i, 3)) (hK : ∀ ls st k μ, K ls st k μ → ma_W p l e R s m args below meth c Q G nL c0 s0 (pc + 3) ls st k μ) (hJ : ∀ pc' ls st k μ, J pc' ls st k μ → ma_W p l e R s m args below meth c Q G nL c0 s0 pc' ls st k μ) (h : ma_step O E (.putfield i) pp qq pc ls st k μ K J D) : ma_W p l e R s m args below meth c Q G nL c0 s0 pc ls st k μ := by
  obtain ⟨hl, h0, hci, hf, hfin⟩ := hq
  obtain ⟨f, rfl⟩ : ∃ f : Nat, qq = (f : Int) := ⟨qq.toNat, by omega⟩
  have hl : (o, i, pp, f) ∈ ma_fl := hl
  have hf : f < ma_N pp := hf
  have hfin : (ma_T pp f).2.2.2 = false := hfin
  obtain ⟨t0, t1, t2, t4⟩ := ma_fk_ok pp hci f hf
  rcases st with _ | ⟨v | v | b | b | b | b | b, _ | ⟨n | n | a | n | n | n | n, st⟩⟩ <;> first | exact h.elim | skip
  · obtain ⟨hc, h2, h⟩ := h
    intro H locs als vs hH hS hL hR
    obtain ⟨_, vs, rfl, ⟨x, rfl, hx⟩, hR1⟩ := ma_RS_cons hR
    obtain ⟨_, vs, rfl, ⟨rfl, hv⟩, hR2⟩ := ma_RS_cons hR1
    have hv : ma_val G a.1 a.2 := hv
    have hr := ma_rng x
    rw [hx] at hr
    have h2' : ma_fk pp f = 0 ∨ (ma_fk pp f = 2 ∧ (v = 0 ∨ v = 1)) := h2
    have hn : narrow (ma_fty pp f) (.int x) = .int x ∧ fits (ma_fty pp f) (.int x) = true := by
      rcases h2' with q | ⟨q, q2⟩
      · rw [t0 q]; exact ⟨rfl, rfl⟩
      · rw [t2 q]; exact ma_nbool (by rw [hx]; exact q2)
    have n1 : ma_fk pp f ≠ 1 := by rcases h2' with q | ⟨q, -⟩ <;> omega
    have n3 : ma_fk pp f ≠ 3 := by rcases h2' with q | ⟨q, -⟩ <;> omega
    have n4 : ma_fk pp f ≠ 4 := by rcases h2' with q | ⟨q, -⟩ <;> omega
    refine ma_putF C hH hS hv (ma_ge2 (by omega)) hc hci hf hl hfin hd hn.1 hn.2 (v := v) ?_ ?_ (fun H1 locs1 hH1 hS1 => hK _ _ _ _ h H1 locs1 als vs hH1 hS1 hL hR2)
    · unfold ma_fv; rw [if_neg n1, if_neg n3, if_neg n4]; simp only [ma_up, and_self, if_true]; rw [ma_ofT hx]
    · unfold ma_fcan; rw [if_neg n1, if_neg n3, if_neg n4]; exact hr
  · obtain ⟨hc, h2, h⟩ := h
    have h2 : ma_fk pp f = 1 := h2
    intro H locs als vs hH hS hL hR
    obtain ⟨_, vs, rfl, ⟨x, rfl, hx⟩, hR1⟩ := ma_RS_cons hR
    obtain ⟨_, vs, rfl, ⟨rfl, hv⟩, hR2⟩ := ma_RS_cons hR1
    have hv : ma_val G a.1 a.2 := hv
    have hr := ma_rngL x
    rw [hx] at hr
    refine ma_putF C hH hS hv (ma_ge2 (by omega)) hc hci hf hl hfin hd (by rw [t1 h2]; rfl) (by rw [t1 h2]; rfl) (v := v) ?_ ?_ (fun H1 locs1 hH1 hS1 => hK _ _ _ _ h H1 locs1 als vs hH1 hS1 hL hR2)
    · unfold ma_fv; rw [if_pos h2]; simp only [ma_up, and_self, if_true]; rw [ma_ofTL hx]
    · unfold ma_fcan; rw [if_pos h2]; exact hr
  · obtain ⟨hc, h2, h3, h4, h⟩ := h
    have h2 : ma_fk pp f = 4 := h2
    obtain ⟨b1, b2⟩ := b
    have h4 : b2 = 0 := h4
    subst h4
    intro H locs als vs hH hS hL hR
    obtain ⟨_, vs, rfl, ⟨rfl, hvb⟩, hR1⟩ := ma_RS_cons hR
    obtain ⟨_, vs, rfl, ⟨rfl, hv⟩, hR2⟩ := ma_RS_cons hR1
    have hv : ma_val G a.1 a.2 := hv
    refine ma_putF C hH hS hv (ma_ge2 (by omega)) hc hci hf hl hfin hd (by rw [t4 h2]; rfl) (by rw [t4 h2]; rfl) (v := (b1 : Int)) ?_ ?_ (fun H1 locs1 hH1 hS1 => hK _ _ _ _ h H1 locs1 als vs hH1 hS1 hL hR2)
    · unfold ma_fv; rw [if_neg (by omega), if_neg (by omega), if_pos h2]; simp only [ma_up, and_self, if_true]; rfl
    · unfold ma_fcan; rw [if_neg (by omega), if_neg (by omega), if_pos h2]; exact hvb
theorem ma_s_getstatic {i : Nat} (hq : (o, i) ∈ ma_sl) (C : ma_Cx p s m args c G cc o nL) (hd : decode cc pc = .ok (.getstatic i, 3)) (hK : ∀ ls st k μ, K ls st k μ → ma_W p l e R s m args below meth c Q G nL c0 s0 (pc + 3) ls st k μ) (hJ : ∀ pc' ls st k μ, J pc' ls st k μ → ma_W p l e R s m args below meth c Q G nL c0 s0 pc' ls st k μ) (h : ma_step O E (.getstatic i) pp qq pc ls st k μ K J D) : ma_W p l e R s m args below meth c Q G nL c0 s0 pc ls st k μ := by
  intro H locs als vs hH hS hL hR
  obtain ⟨-, -, -, hZ, -⟩ := C.2.2.2.2.2.2.2.2
  exact va_gets C.1 C.2.1 hZ hS C.2.2.2.1 (C.2.2.2.2.1 _ (ma_WG_in (ma_sl_in _ (List.mem_map.mpr ⟨_, hq, rfl⟩)) (ma_sl_good _ (List.mem_map.mpr ⟨_, hq, rfl⟩)))) (fun _ z => z) hd (hK _ _ _ _ h H locs als _ hH hS hL ⟨⟨rfl, by decide, by decide, by decide, C.2.2.2.2.2.2.1.2.2.2.2.1⟩, hR⟩)
theorem ma_s_arraylength (hE : E.1 = G.LS ∧ G.LS ≤ 2048) (C : ma_Cx p s m args c G cc o nL) (hd : decode cc pc = .ok (.arraylength, 1)) (hK : ∀ ls st k μ, K ls st k μ → ma_W p l e R s m args below meth c Q G nL c0 s0 (pc + 1) ls st k μ) (hJ : ∀ pc' ls st k μ, J pc' ls st k μ → ma_W p l e R s m args below meth c Q G nL c0 s0 pc' ls st k μ) (h : ma_step O E (.arraylength) pp qq pc ls st k μ K J D) : ma_W p l e R s m args below meth c Q G nL c0 s0 pc ls st k μ := by
  have h : ma_pR st fun a _ st => ((ma_ck a).1 ≤ 4 ∨ (ma_ck a).1 = 8) ∧ K ls (ma_I (ma_len E.1 a : Int) :: st) k μ := h
  obtain ⟨a, r, st, rfl, hc, h1⟩ := ma_pR_e h
  intro H locs als vs hH hS hL hR
  obtain ⟨_, vs, rfl, ⟨rfl, hv⟩, hR1⟩ := ma_RS_cons hR
  have hv : ma_val G a r := hv
  have hsm : ∀ n : Nat, n < 2147483648 → (Nat.toInt32 n).toInt = (n : Int) := fun n hn => by
    show (Int32.ofNat n).toInt = _
    rw [Int32.toInt_ofNat']
    show Int.bmod (n : Int) 4294967296 = _
    simp only [Int.bmod_def]
    omega
  have key : ∀ (cell : Cell) (n : Nat), H[G.ad a r]? = some cell → (∃ ty, s.isArrayOf cell ty) → cell.slots.size = n → n < 2147483648 → (n : Int) = (ma_len E.1 a : Int) → W p l e R s m args below meth c H locs (c0 + k) (s0 + 6 * k) Q (F0 m pc als (.ref (G.ad a r) :: vs)) := fun cell n g1 ⟨ty, g2⟩ g3 g4 g5 =>
    W.alen (n := cell.slots.size.toInt32) C.1 C.2.1 g1 g2 rfl (g := F0 m pc als (.ref (G.ad a r) :: vs)) rfl rfl hd (hK _ _ _ _ h1 H locs als (.int cell.slots.size.toInt32 :: vs) hH hS hL ⟨⟨_, rfl, by rw [g3, hsm n g4]; exact g5⟩, hR1⟩)
  rcases hc with hc | hc
  · obtain ⟨e1, e2, -⟩ := ma_arr C hH hv hc
    exact key _ _ e1 ⟨_, e2⟩ (arrV_size _ _ _) (Nat.lt_trans (ma_ck_lt a) (by decide)) (by rw [ma_len_ne (by omega)])
  · obtain ⟨cell, e1, e2, -, -, e5, -⟩ := (hH a r hv).2.2.1 (Or.inr hc)
    exact key _ _ e1 ⟨_, e2⟩ (e5 hc) (by omega) (by rw [ma_k8 hc]; show (G.LS : Int) = (ma_len E.1 0 : Int); rw [← hE.1]; rfl)
theorem ma_ldA (C : ma_Cx p s m args c G cc o nL) {H : Heap} {kk : Nat} {r i : Int} {x : Int32} (hH : ma_HR G s μ H) (hv : ma_val G kk r) (hc : (ma_ck kk).1 ≤ 4) (hx : x.toInt = i) (hi : ma_in E.1 kk i) :
    H[G.ad kk r]? = some (arrV (G.dA (ma_ck kk).1) (ma_ck kk).2.1 (fun j => ma_cv (ma_ck kk).1 (μ kk r j))) ∧ s.isArrayOf (arrV (G.dA (ma_ck kk).1) (ma_ck kk).2.1 (fun j => ma_cv (ma_ck kk).1 (μ kk r j))) (ma_fat (ma_ck kk).1) ∧ (arrV (G.dA (ma_ck kk).1) (ma_ck kk).2.1 (fun j => ma_cv (ma_ck kk).1 (μ kk r j))).vm ≠ .unknown ∧
    ¬ (x < 0 ∨ (arrV (G.dA (ma_ck kk).1) (ma_ck kk).2.1 (fun j => ma_cv (ma_ck kk).1 (μ kk r j))).slots.size ≤ x.toNatClampNeg) ∧ (arrV (G.dA (ma_ck kk).1) (ma_ck kk).2.1 (fun j => ma_cv (ma_ck kk).1 (μ kk r j))).slots[x.toNatClampNeg]? = some (ma_cv (ma_ck kk).1 (μ kk r i)) ∧ ma_can (ma_ck kk).1 (μ kk r i) ∧ ((x.toNatClampNeg : Nat) : Int) = i := by
  obtain ⟨e1, e2, e3⟩ := ma_arr C hH hv hc
  unfold ma_in at hi
  rw [ma_len_ne (by omega)] at hi
  obtain ⟨f1, f2, f3, f4⟩ := ma_idx hx hi
  refine ⟨e1, e2, fun z => (by cases z), by rw [arrV_size]; exact f1, by rw [arrV_read _ _ f3, f4], e3 i hi.1 hi.2, f4⟩
theorem ma_s_laload (C : ma_Cx p s m args c G cc o nL) (hd : decode cc pc = .ok (.laload, 1)) (hK : ∀ ls st k μ, K ls st k μ → ma_W p l e R s m args below meth c Q G nL c0 s0 (pc + 1) ls st k μ) (hJ : ∀ pc' ls st k μ, J pc' ls st k μ → ma_W p l e R s m args below meth c Q G nL c0 s0 pc' ls st k μ) (h : ma_step O E (.laload) pp qq pc ls st k μ K J D) : ma_W p l e R s m args below meth c Q G nL c0 s0 pc ls st k μ := by
  have h : ma_pI st fun i st => ma_pR st fun a r st => ma_in E.1 a i ∧ (ma_ck a).1 = 1 ∧ K ls (ma_L (μ a r i) :: st) k μ := h
  obtain ⟨i, st, rfl, h1⟩ := ma_pI_e h
  obtain ⟨a, r, st, rfl, hi, hc, h2⟩ := ma_pR_e h1
  intro H locs als vs hH hS hL hR
  obtain ⟨_, vs, rfl, ⟨x, rfl, hx⟩, hR1⟩ := ma_RS_cons hR
  obtain ⟨_, vs, rfl, ⟨rfl, hv⟩, hR2⟩ := ma_RS_cons hR1
  have hv : ma_val G a r := hv
  obtain ⟨e1, e2, e3, e4, e5, hcan, -⟩ := ma_ldA (E := E) C hH hv (by omega) hx hi
  rw [hc] at e1 e2 e3 e4 e5 hcan
  exact W.lald C.1 C.2.1 e1 e2 e3 e4 e5 (g := F0 m pc als (.int x :: .ref (G.ad a r) :: vs)) rfl rfl hd (hK _ _ _ _ h2 H locs als (_ :: vs) hH hS hL ⟨⟨_, rfl, ma_backL hcan⟩, hR2⟩)
theorem ma_s_baload (C : ma_Cx p s m args c G cc o nL) (hd : decode cc pc = .ok (.baload, 1)) (hK : ∀ ls st k μ, K ls st k μ → ma_W p l e R s m args below meth c Q G nL c0 s0 (pc + 1) ls st k μ) (hJ : ∀ pc' ls st k μ, J pc' ls st k μ → ma_W p l e R s m args below meth c Q G nL c0 s0 pc' ls st k μ) (h : ma_step O E (.baload) pp qq pc ls st k μ K J D) : ma_W p l e R s m args below meth c Q G nL c0 s0 pc ls st k μ := by
  have h : ma_pI st fun i st => ma_pR st fun a r st => ma_in E.1 a i ∧ (ma_ck a).1 = 2 ∧ K ls (ma_I (μ a r i) :: st) k μ := h
  obtain ⟨i, st, rfl, h1⟩ := ma_pI_e h
  obtain ⟨a, r, st, rfl, hi, hc, h2⟩ := ma_pR_e h1
  intro H locs als vs hH hS hL hR
  obtain ⟨_, vs, rfl, ⟨x, rfl, hx⟩, hR1⟩ := ma_RS_cons hR
  obtain ⟨_, vs, rfl, ⟨rfl, hv⟩, hR2⟩ := ma_RS_cons hR1
  have hv : ma_val G a r := hv
  obtain ⟨e1, e2, e3, e4, e5, hcan, -⟩ := ma_ldA (E := E) C hH hv (by omega) hx hi
  rw [hc] at e1 e2 e3 e4 e5 hcan
  exact W.zald C.1 C.2.1 e1 e2 e3 e4 e5 (g := F0 m pc als (.int x :: .ref (G.ad a r) :: vs)) rfl rfl hd (hK _ _ _ _ h2 H locs als (_ :: vs) hH hS hL ⟨⟨_, rfl, ma_back hcan⟩, hR2⟩)
theorem ma_s_caload (C : ma_Cx p s m args c G cc o nL) (hd : decode cc pc = .ok (.caload, 1)) (hK : ∀ ls st k μ, K ls st k μ → ma_W p l e R s m args below meth c Q G nL c0 s0 (pc + 1) ls st k μ) (hJ : ∀ pc' ls st k μ, J pc' ls st k μ → ma_W p l e R s m args below meth c Q G nL c0 s0 pc' ls st k μ) (h : ma_step O E (.caload) pp qq pc ls st k μ K J D) : ma_W p l e R s m args below meth c Q G nL c0 s0 pc ls st k μ := by
  have h : ma_pI st fun i st => ma_pR st fun a r st => ma_in E.1 a i ∧ (ma_ck a).1 = 3 ∧ K ls (ma_I (μ a r i) :: st) k μ := h
  obtain ⟨i, st, rfl, h1⟩ := ma_pI_e h
  obtain ⟨a, r, st, rfl, hi, hc, h2⟩ := ma_pR_e h1
  intro H locs als vs hH hS hL hR
  obtain ⟨_, vs, rfl, ⟨x, rfl, hx⟩, hR1⟩ := ma_RS_cons hR
  obtain ⟨_, vs, rfl, ⟨rfl, hv⟩, hR2⟩ := ma_RS_cons hR1
  have hv : ma_val G a r := hv
  obtain ⟨e1, e2, e3, e4, e5, hcan, -⟩ := ma_ldA (E := E) C hH hv (by omega) hx hi
  rw [hc] at e1 e2 e3 e4 e5 hcan
  exact W.cald C.1 C.2.1 e1 e2 e3 e4 e5 (g := F0 m pc als (.int x :: .ref (G.ad a r) :: vs)) rfl rfl hd (hK _ _ _ _ h2 H locs als (_ :: vs) hH hS hL ⟨⟨_, rfl, ma_back hcan⟩, hR2⟩)
theorem ma_s_iaload (hE : E.1 = G.LS ∧ G.LS ≤ 2048) (C : ma_Cx p s m args c G cc o nL) (hd : decode cc pc = .ok (.iaload, 1)) (hK : ∀ ls st k μ, K ls st k μ → ma_W p l e R s m args below meth c Q G nL c0 s0 (pc + 1) ls st k μ) (hJ : ∀ pc' ls st k μ, J pc' ls st k μ → ma_W p l e R s m args below meth c Q G nL c0 s0 pc' ls st k μ) (h : ma_step O E (.iaload) pp qq pc ls st k μ K J D) : ma_W p l e R s m args below meth c Q G nL c0 s0 pc ls st k μ := by
  have h : ma_pI st fun i st => ma_pR st fun a r st => ma_in E.1 a i ∧ (((ma_ck a).1 = 0 ∨ (ma_ck a).1 = 7) ∧ K ls (ma_I (μ a r i) :: st) k μ ∨ (ma_ck a).1 = 8 ∧ (ma_r32 (μ a r i) → K ls (ma_I (μ a r i) :: st) k μ)) := h
  obtain ⟨i, st, rfl, h1⟩ := ma_pI_e h
  obtain ⟨a, r, st, rfl, hi, h2⟩ := ma_pR_e h1
  intro H locs als vs hH hS hL hR
  obtain ⟨_, vs, rfl, ⟨x, rfl, hx⟩, hR1⟩ := ma_RS_cons hR
  obtain ⟨_, vs, rfl, ⟨rfl, hv⟩, hR2⟩ := ma_RS_cons hR1
  have hv : ma_val G a r := hv
  have hst : ((ma_ck a).1 = 7 ∨ (ma_ck a).1 = 8) → (ma_r32 (μ a r i) → K ls (ma_I (μ a r i) :: st) k μ) → W p l e R s m args below meth c H locs (c0 + k) (s0 + 6 * k) Q (F0 m pc als (.int x :: .ref (G.ad a r) :: vs)) := fun hc h => by
    obtain ⟨cell, e1, e2, e3, e4, -, e6⟩ := (hH a r hv).2.2.1 hc
    have hi' : 0 ≤ i ∧ i < (ma_len G.LS a : Int) := by rw [← hE.1]; exact hi
    obtain ⟨f1, f2, f3, f4⟩ := ma_idx hx hi'
    obtain ⟨g1, g2⟩ := e6 i hi'.1 hi'.2
    exact W.iald (v := .int (Int32.ofInt (μ a r i))) C.1 C.2.1 e1 e2 e3 (fun z => f1 (z.imp id (fun z => Nat.le_trans e4 z))) (by rw [f2]; exact g2) (g := F0 m pc als (.int x :: .ref (G.ad a r) :: vs)) rfl rfl hd (hK _ _ _ _ (h g1) H locs als (_ :: vs) hH hS hL ⟨⟨_, rfl, ma_back g1⟩, hR2⟩)
  rcases h2 with ⟨hc, h⟩ | ⟨hc, h⟩
  · rcases hc with hc | hc
    · obtain ⟨e1, e2, e3, e4, e5, hcan, -⟩ := ma_ldA (E := E) C hH hv (by omega) hx hi
      rw [hc] at e1 e2 e3 e4 e5 hcan
      exact W.iald C.1 C.2.1 e1 e2 e3 e4 e5 (g := F0 m pc als (.int x :: .ref (G.ad a r) :: vs)) rfl rfl hd (hK _ _ _ _ h H locs als (_ :: vs) hH hS hL ⟨⟨_, rfl, ma_back hcan⟩, hR2⟩)
    · exact hst (Or.inl hc) (fun _ => h)
  · exact hst (Or.inr hc) h
theorem ma_s_aaload (C : ma_Cx p s m args c G cc o nL) (hd : decode cc pc = .ok (.aaload, 1)) (hK : ∀ ls st k μ, K ls st k μ → ma_W p l e R s m args below meth c Q G nL c0 s0 (pc + 1) ls st k μ) (hJ : ∀ pc' ls st k μ, J pc' ls st k μ → ma_W p l e R s m args below meth c Q G nL c0 s0 pc' ls st k μ) (h : ma_step O E (.aaload) pp qq pc ls st k μ K J D) : ma_W p l e R s m args below meth c Q G nL c0 s0 pc ls st k μ := by
  have h : ma_pI st fun i st => ma_pR st fun a _ st => ma_in E.1 a i ∧ ((ma_ck a).1 = 5 ∨ (ma_ck a).1 = 6) ∧ K ls (ma_Rf (a + 1) i :: st) k μ := h
  obtain ⟨i, st, rfl, h1⟩ := ma_pI_e h
  obtain ⟨a, r, st, rfl, hi, hc, h2⟩ := ma_pR_e h1
  intro H locs als vs hH hS hL hR
  obtain ⟨_, vs, rfl, ⟨x, rfl, hx⟩, hR1⟩ := ma_RS_cons hR
  obtain ⟨_, vs, rfl, ⟨rfl, hv⟩, hR2⟩ := ma_RS_cons hR1
  have hv : ma_val G a r := hv
  have e1 := (hH a r hv).2.1 hc
  unfold ma_in at hi
  rw [ma_len_ne (by omega)] at hi
  obtain ⟨f1, f2, f3, f4⟩ := ma_idx hx hi
  have e2 := C.2.2.2.2.2.1.1 (ma_ck a).1 (by omega) (ma_ck a).2.1 (fun j => .ref (G.ad (a + 1) j))
  have hrows : a + 1 < ma_cells.length ∧ ((ma_ck a).2.1 : Int) ≤ ((ma_ck (a + 1)).2.2 : Int) := by
    have hk : a < 71 := by
      by_cases z : a < 71
      · exact z
      · rw [ma_ck_out (by omega)] at hc
        rcases hc with hc | hc <;> cases hc
    exact (by decide +kernel : ∀ a, a < 71 → ((ma_ck a).1 = 5 ∨ (ma_ck a).1 = 6) → a + 1 < ma_cells.length ∧ ((ma_ck a).2.1 : Int) ≤ ((ma_ck (a + 1)).2.2 : Int)) a hk hc
  have hty : (ma_fat (ma_ck a).1).isReference = true := by rcases hc with hc | hc <;> (rw [hc]; rfl)
  exact W.aald (v := .ref (G.ad (a + 1) i)) C.1 C.2.1 e1 e2 hty (fun z => by cases z) (by rw [arrV_size]; exact f1) (by rw [arrV_read _ _ f3, f4]) (g := F0 m pc als (.int x :: .ref (G.ad a r) :: vs)) rfl rfl hd (hK _ _ _ _ h2 H locs als (_ :: vs) hH hS hL ⟨⟨rfl, hrows.1, hi.1, Int.lt_of_lt_of_le hi.2 hrows.2, C.2.2.2.2.2.2.1.2.2.2.2.2 a hc hv.2.2.2⟩, hR2⟩)
theorem ma_s_iastore (C : ma_Cx p s m args c G cc o nL) (hd : decode cc pc = .ok (.iastore, 1)) (hK : ∀ ls st k μ, K ls st k μ → ma_W p l e R s m args below meth c Q G nL c0 s0 (pc + 1) ls st k μ) (hJ : ∀ pc' ls st k μ, J pc' ls st k μ → ma_W p l e R s m args below meth c Q G nL c0 s0 pc' ls st k μ) (h : ma_step O E (.iastore) pp qq pc ls st k μ K J D) : ma_W p l e R s m args below meth c Q G nL c0 s0 pc ls st k μ := by
  have h : ma_pI st fun v st => ma_pI st fun i st => ma_pR st fun a r st => ma_in E.1 a i ∧ (ma_ck a).1 = 0 ∧ K ls st k (ma_up μ a r i v) := h
  obtain ⟨v, st, rfl, h1⟩ := ma_pI_e h
  obtain ⟨i, st, rfl, h2⟩ := ma_pI_e h1
  obtain ⟨a, r, st, rfl, hi, hc, h3⟩ := ma_pR_e h2
  intro H locs als vs hH hS hL hR
  obtain ⟨_, vs, rfl, ⟨y, rfl, hy⟩, hR3⟩ := ma_RS_cons hR
  obtain ⟨_, vs, rfl, ⟨x, rfl, hx⟩, hR1⟩ := ma_RS_cons hR3
  obtain ⟨_, vs, rfl, ⟨rfl, hv⟩, hR2⟩ := ma_RS_cons hR1
  have hv : ma_val G a r := hv
  obtain ⟨e1, e2, e3, e4, -, -, e7⟩ := ma_ldA (E := E) C hH hv (by omega) hx hi
  have hc4 : (ma_ck a).1 ≤ 4 := by omega
  refine W.iast C.1 C.2.1 e1 (by rw [hc] at e2 ⊢; exact e2) e3 e4 (g := F0 m pc als (.int y :: .int x :: .ref (G.ad a r) :: vs)) rfl rfl hd (fun H' f1 f2 f3 => ?_)
  obtain ⟨g1, g2⟩ := ma_stA (v := v) C hH hS hv (ma_ge2 (Or.inl hc4)) hc4 e7 f1 f2 f3 (by rw [hc]; exact congrArg Value.int (ma_ofT hy)) (by rw [hc]; exact (hy ▸ ma_rng y))
  exact hK _ _ _ _ h3 H' _ als vs g1 g2 hL hR2
theorem ma_s_lastore (C : ma_Cx p s m args c G cc o nL) (hd : decode cc pc = .ok (.lastore, 1)) (hK : ∀ ls st k μ, K ls st k μ → ma_W p l e R s m args below meth c Q G nL c0 s0 (pc + 1) ls st k μ) (hJ : ∀ pc' ls st k μ, J pc' ls st k μ → ma_W p l e R s m args below meth c Q G nL c0 s0 pc' ls st k μ) (h : ma_step O E (.lastore) pp qq pc ls st k μ K J D) : ma_W p l e R s m args below meth c Q G nL c0 s0 pc ls st k μ := by
  have h : ma_pL st fun v st => ma_pI st fun i st => ma_pR st fun a r st => ma_in E.1 a i ∧ (ma_ck a).1 = 1 ∧ K ls st k (ma_up μ a r i v) := h
  obtain ⟨v, st, rfl, h1⟩ := ma_pL_e h
  obtain ⟨i, st, rfl, h2⟩ := ma_pI_e h1
  obtain ⟨a, r, st, rfl, hi, hc, h3⟩ := ma_pR_e h2
  intro H locs als vs hH hS hL hR
  obtain ⟨_, vs, rfl, ⟨y, rfl, hy⟩, hR3⟩ := ma_RS_cons hR
  obtain ⟨_, vs, rfl, ⟨x, rfl, hx⟩, hR1⟩ := ma_RS_cons hR3
  obtain ⟨_, vs, rfl, ⟨rfl, hv⟩, hR2⟩ := ma_RS_cons hR1
  have hv : ma_val G a r := hv
  obtain ⟨e1, e2, e3, e4, -, -, e7⟩ := ma_ldA (E := E) C hH hv (by omega) hx hi
  have hc4 : (ma_ck a).1 ≤ 4 := by omega
  refine W.last C.1 C.2.1 e1 (by rw [hc] at e2 ⊢; exact e2) e3 e4 (g := F0 m pc als (.long y :: .int x :: .ref (G.ad a r) :: vs)) rfl rfl hd (fun H' f1 f2 f3 => ?_)
  obtain ⟨g1, g2⟩ := ma_stA (v := v) C hH hS hv (ma_ge2 (Or.inl hc4)) hc4 e7 f1 f2 f3 (by rw [hc]; exact congrArg Value.long (ma_ofTL hy)) (by rw [hc]; exact (hy ▸ ma_rngL y))
  exact hK _ _ _ _ h3 H' _ als vs g1 g2 hL hR2
theorem ma_s_bastore (C : ma_Cx p s m args c G cc o nL) (hd : decode cc pc = .ok (.bastore, 1)) (hK : ∀ ls st k μ, K ls st k μ → ma_W p l e R s m args below meth c Q G nL c0 s0 (pc + 1) ls st k μ) (hJ : ∀ pc' ls st k μ, J pc' ls st k μ → ma_W p l e R s m args below meth c Q G nL c0 s0 pc' ls st k μ) (h : ma_step O E (.bastore) pp qq pc ls st k μ K J D) : ma_W p l e R s m args below meth c Q G nL c0 s0 pc ls st k μ := by
  have h : ma_pI st fun v st => ma_pI st fun i st => ma_pR st fun a r st => ma_in E.1 a i ∧ (ma_ck a).1 = 2 ∧ (v = 0 ∨ v = 1) ∧ K ls st k (ma_up μ a r i v) := h
  obtain ⟨v, st, rfl, h1⟩ := ma_pI_e h
  obtain ⟨i, st, rfl, h2⟩ := ma_pI_e h1
  obtain ⟨a, r, st, rfl, hi, hc, hb01, h3⟩ := ma_pR_e h2
  intro H locs als vs hH hS hL hR
  obtain ⟨_, vs, rfl, ⟨y, rfl, hy⟩, hR3⟩ := ma_RS_cons hR
  obtain ⟨_, vs, rfl, ⟨x, rfl, hx⟩, hR1⟩ := ma_RS_cons hR3
  obtain ⟨_, vs, rfl, ⟨rfl, hv⟩, hR2⟩ := ma_RS_cons hR1
  have hv : ma_val G a r := hv
  obtain ⟨e1, e2, e3, e4, -, -, e7⟩ := ma_ldA (E := E) C hH hv (by omega) hx hi
  have hc4 : (ma_ck a).1 ≤ 4 := by omega
  refine W.zast C.1 C.2.1 e1 (by rw [hc] at e2 ⊢; exact e2) e3 e4 (g := F0 m pc als (.int y :: .int x :: .ref (G.ad a r) :: vs)) rfl rfl hd (fun H' f1 f2 f3 => ?_)
  rw [(ma_nbool (x := y) (by rw [hy]; exact hb01)).1] at f1
  obtain ⟨g1, g2⟩ := ma_stA (v := v) C hH hS hv (ma_ge2 (Or.inl hc4)) hc4 e7 f1 f2 f3 (by rw [hc]; exact congrArg Value.int (ma_ofT hy)) (by rw [hc]; exact (hy ▸ ma_rng y))
  exact hK _ _ _ _ h3 H' _ als vs g1 g2 hL hR2
theorem ma_s_castore (C : ma_Cx p s m args c G cc o nL) (hd : decode cc pc = .ok (.castore, 1)) (hK : ∀ ls st k μ, K ls st k μ → ma_W p l e R s m args below meth c Q G nL c0 s0 (pc + 1) ls st k μ) (hJ : ∀ pc' ls st k μ, J pc' ls st k μ → ma_W p l e R s m args below meth c Q G nL c0 s0 pc' ls st k μ) (h : ma_step O E (.castore) pp qq pc ls st k μ K J D) : ma_W p l e R s m args below meth c Q G nL c0 s0 pc ls st k μ := by
  have h : ma_pI st fun v st => ma_pI st fun i st => ma_pR st fun a r st => ma_in E.1 a i ∧ (ma_ck a).1 = 3 ∧ (0 ≤ v ∧ v < 65536) ∧ K ls st k (ma_up μ a r i v) := h
  obtain ⟨v, st, rfl, h1⟩ := ma_pI_e h
  obtain ⟨i, st, rfl, h2⟩ := ma_pI_e h1
  obtain ⟨a, r, st, rfl, hi, hc, hb01, h3⟩ := ma_pR_e h2
  intro H locs als vs hH hS hL hR
  obtain ⟨_, vs, rfl, ⟨y, rfl, hy⟩, hR3⟩ := ma_RS_cons hR
  obtain ⟨_, vs, rfl, ⟨x, rfl, hx⟩, hR1⟩ := ma_RS_cons hR3
  obtain ⟨_, vs, rfl, ⟨rfl, hv⟩, hR2⟩ := ma_RS_cons hR1
  have hv : ma_val G a r := hv
  obtain ⟨e1, e2, e3, e4, -, -, e7⟩ := ma_ldA (E := E) C hH hv (by omega) hx hi
  have hc4 : (ma_ck a).1 ≤ 4 := by omega
  refine W.cast C.1 C.2.1 e1 (by rw [hc] at e2 ⊢; exact e2) e3 e4 (g := F0 m pc als (.int y :: .int x :: .ref (G.ad a r) :: vs)) rfl rfl hd (fun H' f1 f2 f3 => ?_)
  rw [ma_nchar (x := y) (by rw [hy]; exact hb01)] at f1
  obtain ⟨g1, g2⟩ := ma_stA (v := v) C hH hS hv (ma_ge2 (Or.inl hc4)) hc4 e7 f1 f2 f3 (by rw [hc]; exact congrArg Value.int (ma_ofT hy)) (by rw [hc]; exact (hy ▸ ma_rng y))
  exact hK _ _ _ _ h3 H' _ als vs g1 g2 hL hR2
end MST
