/-! library methods that are one step of the small machine -/
/-- the room of a body: for its own instructions, and for the cells that it may make -/
def ma_Ro (R : Room) (E : ma_E) (c0 s0 : Nat) : Prop := 10 ≤ R.frames ∧ 200 ≤ R.locals ∧ c0 + E.2.2.2 ≤ R.cells ∧ s0 + 6 * E.2.2.2 ≤ R.slots
theorem ma_catR {G : ma_G} {st : List ma_V} {vs : List Value} (h : ma_RS G st vs) (h4 : st.length ≤ 4) : (vs.map fun v => v.category).sum ≤ 8 := by
  have h1 := @ma_cats vs
  have h2 := ma_RS_len h
  omega
theorem ma_catW0 {G : ma_G} : ∀ {st : List ma_V} {vs : List Value}, ma_RS G st vs → (vs.map fun v => v.category).sum ≤ ma_w8 st
  | [], vs, h => by rw [ma_RS_nil h]; exact Nat.le_refl _
  | a :: as, vs, h => by
    obtain ⟨w, ws, rfl, h1, h2⟩ := ma_RS_cons h
    have ih := ma_catW0 h2
    rw [List.map_cons, List.sum_cons]
    have h3 : w.category ≤ 2 := by rcases lv_cat w with z | z <;> omega
    match a, h1 with
    | .inl n, h1 =>
      obtain ⟨x, rfl, -⟩ := h1
      have : (Value.int x).category = 1 := rfl
      show _ ≤ 1 + ma_w8 as
      omega
    | .inr (.inr (.inl q)), h1 =>
      obtain ⟨rfl, -⟩ := h1
      have : (Value.ref (G.ad q.1 q.2)).category = 1 := rfl
      show _ ≤ 1 + ma_w8 as
      omega
    | .inr (.inl n), _ => show _ ≤ 2 + ma_w8 as; omega
    | .inr (.inr (.inr n)), _ => show _ ≤ 2 + ma_w8 as; omega
theorem ma_catW {G : ma_G} {st : List ma_V} {vs : List Value} (h : ma_RS G st vs) (h8 : ma_w8 st ≤ 8) : (vs.map fun v => v.category).sum ≤ 8 := Nat.le_trans (ma_catW0 h) h8
section LIB
variable {p : Program} {l : Launch} {e : Env} {R : Room} {s : State} {m : MethodId} {args : Array Value} {below : List Frame} {meth : Method} {c : Code} {Q : State → Prop} {G : ma_G} {cc : ByteArray} {o nL c0 s0 pc k pp : Nat} {qq : Int} {ls st : List ma_V} {μ : ma_M} {O : ma_O} {E : ma_E} {K : ma_K} {J : ma_J} {D : ma_Dn}
theorem ma_s_mmax {i : Nat} (hq : (o, i) ∈ ma_mx) (hRo : ma_Ro R E c0 s0) (hLn : nL = c.maxLocals) (C : ma_Cx p s m args c G cc o nL) (hd : decode cc pc = .ok (.invokestatic i, 3)) (hK : ∀ ls st k μ, K ls st k μ → ma_W p l e R s m args below meth c Q G nL c0 s0 (pc + 3) ls st k μ) (h : ma_pI st fun y st => ma_pI st fun x st => st.length ≤ 4 ∧ k ≤ E.2.2.2 ∧ K ls (ma_I (if x < y then y else x) :: st) k μ) : ma_W p l e R s m args below meth c Q G nL c0 s0 pc ls st k μ := by
  obtain ⟨y, st, rfl, h1⟩ := ma_pI_e h
  obtain ⟨x, st, rfl, h4, hk, h2⟩ := ma_pI_e h1
  intro H locs als vs hH hS hL hR
  obtain ⟨_, vs, rfl, ⟨b, rfl, hb⟩, hR1⟩ := ma_RS_cons hR
  obtain ⟨_, vs, rfl, ⟨a, rfl, ha⟩, hR2⟩ := ma_RS_cons hR1
  have hc8 := ma_catR hR2 h4
  obtain ⟨r1, r2, r3, r4⟩ := hRo
  refine va_mmax C.1 C.2.1 (by rw [hL.2.1]; exact hLn.symm) C.2.2.2.1 (C.2.2.2.2.1 _ (ma_WG_in (ma_mx_in _ (List.mem_map.mpr ⟨_, hq, rfl⟩)) (ma_mx_good _ (List.mem_map.mpr ⟨_, hq, rfl⟩)))) (C.2.2.2.2.1 _ (ma_WG_in (ma_mxs_in _ List.mem_cons_self) (ma_mxs_good _ List.mem_cons_self))) (C.2.2.2.2.1 _ (ma_WG_in (ma_mxs_in _ (List.mem_cons_of_mem _ List.mem_cons_self)) (ma_mxs_good _ (List.mem_cons_of_mem _ List.mem_cons_self)))) (C.2.2.2.2.1 _ (ma_WG_in (ma_mxc_in _ List.mem_cons_self) (by decide +kernel))) (by omega) (by omega) (by omega) (by omega) hd (hK _ _ _ _ h2 H locs als (_ :: vs) hH hS hL ⟨⟨_, rfl, ?_⟩, hR2⟩)
  simp only [Int32.lt_iff_toInt_lt, ha, hb]
  split <;> assumption
theorem ma_s_mmin {i : Nat} (hq : (o, i) ∈ ma_mn) (hRo : ma_Ro R E c0 s0) (hLn : nL = c.maxLocals) (C : ma_Cx p s m args c G cc o nL) (hd : decode cc pc = .ok (.invokestatic i, 3)) (hK : ∀ ls st k μ, K ls st k μ → ma_W p l e R s m args below meth c Q G nL c0 s0 (pc + 3) ls st k μ) (h : ma_pI st fun y st => ma_pI st fun x st => st.length ≤ 4 ∧ k ≤ E.2.2.2 ∧ K ls (ma_I (if y < x then y else x) :: st) k μ) : ma_W p l e R s m args below meth c Q G nL c0 s0 pc ls st k μ := by
  obtain ⟨y, st, rfl, h1⟩ := ma_pI_e h
  obtain ⟨x, st, rfl, h4, hk, h2⟩ := ma_pI_e h1
  intro H locs als vs hH hS hL hR
  obtain ⟨_, vs, rfl, ⟨b, rfl, hb⟩, hR1⟩ := ma_RS_cons hR
  obtain ⟨_, vs, rfl, ⟨a, rfl, ha⟩, hR2⟩ := ma_RS_cons hR1
  have hc8 := ma_catR hR2 h4
  obtain ⟨r1, r2, r3, r4⟩ := hRo
  refine va_mmin C.1 C.2.1 (by rw [hL.2.1]; exact hLn.symm) C.2.2.2.1 (C.2.2.2.2.1 _ (ma_WG_in (ma_mn_in _ (List.mem_map.mpr ⟨_, hq, rfl⟩)) (ma_mn_good _ (List.mem_map.mpr ⟨_, hq, rfl⟩)))) (C.2.2.2.2.1 _ (ma_WG_in (ma_mns_in _ List.mem_cons_self) (ma_mns_good _ List.mem_cons_self))) (C.2.2.2.2.1 _ (ma_WG_in (ma_mns_in _ (List.mem_cons_of_mem _ List.mem_cons_self)) (ma_mns_good _ (List.mem_cons_of_mem _ List.mem_cons_self)))) (C.2.2.2.2.1 _ (ma_WG_in (ma_mnc_in _ List.mem_cons_self) (by decide +kernel))) (by omega) (by omega) (by omega) (by omega) hd (hK _ _ _ _ h2 H locs als (_ :: vs) hH hS hL ⟨⟨_, rfl, ?_⟩, hR2⟩)
  simp only [Int32.lt_iff_toInt_lt, ha, hb]
  split <;> assumption
theorem ma_s_acopy {i : Nat} {n dp sp : Int} {b a : Nat} {rb ra : Int} (hq : (o, i) ∈ ma_cp) (hRo : ma_Ro R E c0 s0) (hLn : nL = c.maxLocals) (C : ma_Cx p s m args c G cc o nL) (hd : decode cc pc = .ok (.invokestatic i, 3)) (hK : ∀ ls st k μ, K ls st k μ → ma_W p l e R s m args below meth c Q G nL c0 s0 (pc + 3) ls st k μ)
    (h4 : st.length ≤ 4) (hca : (ma_ck a).1 = 0) (hcb : (ma_ck b).1 = 0) (hab : a ≠ b) (hn : 0 ≤ n) (hsp : 0 ≤ sp) (hdp : 0 ≤ dp) (hsn : sp + n ≤ (ma_ck a).2.1) (hdn : dp + n ≤ (ma_ck b).2.1) (h : K ls st k (ma_cpy μ a ra sp b rb dp n)) :
    ma_W p l e R s m args below meth c Q G nL c0 s0 pc ls (ma_I n :: ma_I dp :: ma_Rf b rb :: ma_I sp :: ma_Rf a ra :: st) k μ := by
  intro H locs als vs hH hS hL hR
  obtain ⟨_, vs, rfl, ⟨xn, rfl, hxn⟩, hR1⟩ := ma_RS_cons hR
  obtain ⟨_, vs, rfl, ⟨xd, rfl, hxd⟩, hR2⟩ := ma_RS_cons hR1
  obtain ⟨_, vs, rfl, ⟨rfl, hvb⟩, hR3⟩ := ma_RS_cons hR2
  obtain ⟨_, vs, rfl, ⟨xs, rfl, hxs⟩, hR4⟩ := ma_RS_cons hR3
  obtain ⟨_, vs, rfl, ⟨rfl, hva⟩, hR5⟩ := ma_RS_cons hR4
  have hvb : ma_val G b rb := hvb
  have hva : ma_val G a ra := hva
  have hc8 := ma_catR hR5 h4
  obtain ⟨r1, r2, r3, r4⟩ := hRo
  obtain ⟨ea, -, ca⟩ := ma_arr C hH hva (by omega)
  obtain ⟨eb, -, cb⟩ := ma_arr C hH hvb (by omega)
  rw [hca] at ea ca
  rw [hcb] at eb cb
  have nn : ∀ (z : Int32) (v : Int), z.toInt = v → 0 ≤ v → ¬ z < 0 ∧ (z.toNatClampNeg : Int) = v ∧ z.toNatClampNeg = v.toNat := by
    intro z v hz h0
    refine ⟨fun hl => ?_, ?_, ?_⟩
    · rw [Int32.lt_iff_toInt_lt, hz] at hl
      have : (0 : Int32).toInt = 0 := rfl
      omega
    · show ((z.toInt.toNat : Nat) : Int) = v
      omega
    · show z.toInt.toNat = v.toNat
      rw [hz]
  obtain ⟨n1, n2, n3⟩ := nn _ _ hxn hn
  obtain ⟨d1, d2, d3⟩ := nn _ _ hxd hdp
  obtain ⟨s1, s2, s3⟩ := nn _ _ hxs hsp
  have hnf : nativeFrameWords "java/lang/System" "arraycopy" 5 ≤ 100 := by decide +kernel
  have hT0 : ArrOfT s (G.dA 0) .int := C.2.2.2.2.2.1.1 0 (by omega)
  intro T hT X
  obtain ⟨-, k0, hk0, cm0, hkk0⟩ := hT0 (ma_ck a).2.1 (fun j => ma_cv 0 (μ a ra j))
  obtain ⟨-, k1, hk1, cm1, hkk1⟩ := hT0 (ma_ck b).2.1 (fun j => ma_cv 0 (μ b rb j))
  obtain ⟨vm', X', step⟩ := X.arraycopy C.1 C.2.2.2.1 (C.2.2.2.2.1 _ (ma_WG_in (ma_cp_in _ (List.mem_map.mpr ⟨_, hq, rfl⟩)) (ma_cp_good _ (List.mem_map.mpr ⟨_, hq, rfl⟩)))) (C.2.2.2.2.1 _ (ma_WG_in (ma_ac_in _ List.mem_cons_self) (ma_ac_good _ List.mem_cons_self))) (C.2.2.2.2.1 _ (ma_WG_in (ma_ac_in _ (List.mem_cons_of_mem _ List.mem_cons_self)) (ma_ac_good _ (List.mem_cons_of_mem _ List.mem_cons_self)))) (C.2.2.2.2.1 _ (ma_WG_in (ma_ac_in _ (List.mem_cons_of_mem _ (List.mem_cons_of_mem _ List.mem_cons_self))) (ma_ac_good _ (List.mem_cons_of_mem _ (List.mem_cons_of_mem _ List.mem_cons_self)))))
    (src := G.ad a ra) (dst := G.ad b rb) (cs := arrV (G.dA 0) (ma_ck a).2.1 (fun j => ma_cv 0 (μ a ra j))) (cd := arrV (G.dA 0) (ma_ck b).2.1 (fun j => ma_cv 0 (μ b rb j))) (srcPos := xs) (destPos := xd) (n := xn) (by rw [hT]; exact ea) (by rw [hT]; exact eb)
    (fun _ h => by cases h) (fun _ h => by cases h) (fun h => by cases h) (fun h => by cases h) hk0 hk1 hkk0 hkk1 (by rfl) s1 d1 n1
    (by rw [hxs, hxn, arrV_size]; omega)
    (by rw [hxd, hxn, arrV_size]; omega)
    (fun vm₁ _ i hi => by
      have e : (arrV (G.dA 0) (ma_ck a).2.1 (fun j => ma_cv 0 (μ a ra j))).slots.getD (xs.toNatClampNeg + i) .null = .int (Int32.ofInt (μ a ra ((xs.toNatClampNeg + i : Nat) : Int))) := by
        rw [Array.getD_eq_getD_getElem?, arrV_read _ _ (by omega)]
        rfl
      refine ⟨?_, ?_⟩
      · rw [e]
        rfl
      · rw [e]
        exact trivial)
    (g := F0 m pc als (.int xn :: .int xd :: .ref (G.ad b rb) :: .int xs :: .ref (G.ad a ra) :: vs)) rfl (by rw [← hLn]; exact hL.2.1) (rest := vs) rfl (by rw [C.2.1]; exact hd) (by omega) (by show 2 * 0 + _ + (nativeFrameWords "java/lang/System" "arraycopy" 5 + 11) ≤ _; omega)
  have e1 : copied (arrV (G.dA 0) (ma_ck a).2.1 (fun j => ma_cv 0 (μ a ra j))) (arrV (G.dA 0) (ma_ck b).2.1 (fun j => ma_cv 0 (μ b rb j))) xs xd xn = arrV (G.dA 0) (ma_ck b).2.1 (fun j => ma_cv 0 (ma_cpy μ a ra sp b rb dp n b rb j)) := by
    have := va_copied (fun z => Value.int (Int32.ofInt z)) (G.dA 0) (G.dA 0) (n0 := (ma_ck a).2.1) (n1 := (ma_ck b).2.1) (sp := xs.toNatClampNeg) (dp := xd.toNatClampNeg) (n := xn.toNatClampNeg) (fun j : Nat => μ a ra j) (fun j : Nat => μ b rb j) (by omega)
    refine this.trans ?_
    congr 1
    funext j
    show Value.int (Int32.ofInt (va_cpy (fun j : Nat => μ a ra j) (fun j : Nat => μ b rb j) _ _ _ j)) = Value.int (Int32.ofInt (ma_cpy μ a ra sp b rb dp n b rb j))
    congr 2
    simp only [va_cpy, ma_cpy, true_and]
    by_cases hz : xd.toNatClampNeg ≤ j ∧ j < xd.toNatClampNeg + xn.toNatClampNeg
    · rw [if_pos hz, if_pos (by omega)]
      congr 1
      omega
    · rw [if_neg hz, if_neg (by omega)]
  rw [e1] at X' step
  have hl : G.ad b rb < H.size := (Array.getElem?_eq_some_iff.mp eb).1
  have hheap : ∀ cell : Cell, ((T.setVm vm').setCell (G.ad b rb) cell).heap = H.setIfInBounds (G.ad b rb) cell := fun cell => by rw [← hT]; rfl
  have oq : ∀ (cell : Cell) (q : Nat), q ≠ G.ad b rb → (H.setIfInBounds (G.ad b rb) cell)[q]? = H[q]? := fun cell q hq => by simp [Array.getElem?_setIfInBounds, Ne.symm hq]
  have hA := C.2.2.2.2.2.2.1
  have hAb : ma_A G (G.ad b rb) := hA.2.1 b rb hvb (ma_ge2 (Or.inl (by omega)))
  have hcpy : ∀ (k' : Nat) (r' i' : Int), ¬ (k' = b ∧ r' = rb) → ma_cpy μ a ra sp b rb dp n k' r' i' = μ k' r' i' := fun k' r' i' z => by
    unfold ma_cpy
    rw [if_neg (fun w => z ⟨w.1, w.2.1⟩)]
  have hH1 : ma_HR G s (ma_cpy μ a ra sp b rb dp n) (H.setIfInBounds (G.ad b rb) (arrV (G.dA 0) (ma_ck b).2.1 (fun j => ma_cv 0 (ma_cpy μ a ra sp b rb dp n b rb j)))) := by
    refine hH.keep hA hvb rfl (oq _) hcpy ⟨fun _ => ⟨?_, fun j h0 h1 => ?_⟩, fun ci hc => by omega⟩ (Or.inl (by omega))
    · rw [hcb]
      simp [Array.getElem?_setIfInBounds, hl]
    · rw [hcb]
      unfold ma_cpy
      by_cases hz : b = b ∧ rb = rb ∧ dp ≤ j ∧ j < dp + n
      · rw [if_pos hz]
        exact ca _ (by omega) (by omega)
      · rw [if_neg hz]
        exact cb j h0 h1
  obtain ⟨t, a1, b1⟩ := hK _ _ _ _ h _ _ als vs hH1 (⟨by simp; exact hS.1, fun q g1 g2 => by
      rw [oq _ q (fun e => g2 (by rw [e]; exact hAb))]
      exact hS.2.1 q g1 g2, fun q hq => by
      rcases List.mem_append.mp hq with h | h
      · exact hS.2.2 q h
      · obtain ⟨z, -, hz⟩ := List.mem_map.mp h
        rw [← hz]
        exact hAb⟩ : va_S (ma_A G) s.heap _ _) hL hR5 _ (hheap _) X'
  exact ⟨t, step t a1, b1⟩
end LIB
