/-! fields and arrays -/
section MEM
variable {p : Program} {l : Launch} {e : Env} {R : Room} {s : State} {m : MethodId} {args : Array Value} {below : List Frame} {meth : Method} {c : Code} {Q : State → Prop} {G : ma_G} {cc : ByteArray} {o nL c0 s0 pc pc' k : Nat} {ls st : List ma_V} {μ : ma_M}
variable {H : Heap} {locs : List Loc} {als : Array Slot} {cells slots : Nat} {rest : List Value}
theorem ma_fl_word {o i ci f : Nat} (h : (o, i, ci, f) ∈ ma_fl) : Cond.fieldLink (ma_own o) i (ma_C ci) (ma_T ci f).2.1 (ma_T ci f).2.2.1 ∈ ma_WG :=
  ma_WG_in (ma_fl_in _ (List.mem_map.mpr ⟨_, h, rfl⟩)) (ma_fl_good _ (List.mem_map.mpr ⟨_, h, rfl⟩))
theorem ma_getF (C : ma_Cx p s m args c G cc o nL) {kk : Nat} {r : Int} {ci f i : Nat} (hH : ma_HR G s μ H) (hv : ma_val G kk r) (hc : (ma_ck kk).1 = 10 + ci) (hci : ci < 11) (hf : f < ma_N ci) (hl : (o, i, ci, f) ∈ ma_fl) (hd : decode cc pc = .ok (.getfield i, 3))
    (hk : W p l e R s m args below meth c H locs cells slots Q (F0 m (pc + 3) als (ma_fv G μ kk r ci f :: rest))) : W p l e R s m args below meth c H locs cells slots Q (F0 m pc als (.ref (G.ad kk r) :: rest)) := by
  obtain ⟨hx, hb, hml, ho, hts, hK, hA, hsz⟩ := C
  have hob := ((hH kk r hv).2.2.2 ci hc).1
  have hKn := hK.2.2 ci hci
  refine va_get (D := (fun _ => G.dC ci, fun _ => G.dI ci)) (cl := [(ma_C ci, ma_T ci, ma_N ci)]) (tys := []) (ws := [(G.ad kk r, .inr (0, (List.range (ma_N ci)).map (fun f => ma_fv G μ kk r ci f)))]) (ci := 0) (own := ma_own o) (ref := ma_C ci) (C := ma_C ci) (T := ma_T ci) (N := ma_N ci) (index := i) hx hb hts (ma_u_in ci hci) ho ?_ ?_ 0 rfl rfl f hf (hts _ (ma_fl_word hl)) ?_ ?_ hd hk
  · refine ⟨fun j q hq => ?_, fun j q hq => by simp at hq⟩
    have hz : j < 1 := (List.getElem?_eq_some_iff.mp hq).1
    have hj : j = 0 := by omega
    subst hj
    cases hq
    exact hKn
  · intro j q hq
    have hz : j < 1 := (List.getElem?_eq_some_iff.mp hq).1
    have hj : j = 0 := by omega
    subst hj
    cases hq
    refine ⟨_, rfl, hob.to fun j hj => ?_⟩
    simp [vp_V, List.getD_eq_getElem?_getD, hj]
  · intro x hx2
    rw [ma_decl_ok ci hci f hf] at hx2
    exact hx2
  · simp [hf]
theorem ma_putF (C : ma_Cx p s m args c G cc o nL) {kk : Nat} {r : Int} {ci f i : Nat} {v : Int} {w : Value} (hH : ma_HR G s μ H) (hS : va_S (ma_A G) s.heap H locs) (hv : ma_val G kk r) (h2 : 2 ≤ kk) (hc : (ma_ck kk).1 = 10 + ci) (hci : ci < 11) (hf : f < ma_N ci) (hl : (o, i, ci, f) ∈ ma_fl) (hfin : (ma_T ci f).2.2.2 = false) (hd : decode cc pc = .ok (.putfield i, 3))
    (hn : narrow (ma_fty ci f) w = w) (hfit : fits (ma_fty ci f) w = true) (hw : ma_fv G (ma_up μ kk r f v) kk r ci f = w) (hcan : ma_fcan G kk ci f v)
    (hk : ∀ (H1 : Heap) (locs1 : List Loc), ma_HR G s (ma_up μ kk r f v) H1 → va_S (ma_A G) s.heap H1 locs1 → W p l e R s m args below meth c H1 locs1 cells slots Q (F0 m (pc + 3) als rest)) : W p l e R s m args below meth c H locs cells slots Q (F0 m pc als (w :: .ref (G.ad kk r) :: rest)) := by
  obtain ⟨hx, hb, hml, ho, hts, hK, hA, hsz⟩ := C
  obtain ⟨hob, hca⟩ := (hH kk r hv).2.2.2 ci hc
  have hKn := hK.2.2 ci hci
  have hap := va_apart (own := ma_own o) (D := (fun _ => G.dC ci, fun _ => G.dI ci)) (cl := [(ma_C ci, ma_T ci, ma_N ci)]) (tys := []) (ci := 0) hts (ma_u_in ci hci) (ma_fty ci) (ma_ty_ok ci hci) (ma_nm_ok ci hci) (s := s) ⟨fun j q hq => by
    have hz : j < 1 := (List.getElem?_eq_some_iff.mp hq).1
    have hj : j = 0 := by omega
    subst hj
    cases hq
    exact hKn, fun j q hq => by simp at hq⟩ rfl
  obtain ⟨cell, q1, q2, q3, q4⟩ := hob
  obtain ⟨hSl, hfc, kC, hkC, hkind⟩ := hKn
  obtain ⟨cf, kf, fi, fd, hi, hsl⟩ := hSl f hf
  have hlay := hts _ (ma_u_in ci hci _ (u_in_lay hf))
  unfold u_lay at hlay
  rw [if_neg (by rw [hfin]; decide)] at hlay
  have hst := (u_facts hfc hkC (u_lays hts (ma_u_in ci hci) hf) hi).1
  have h6 := u_store hfc hkC hkind hlay hi (ma_ty_ok ci hci f hf) hn hfit
  have hi2 : s.fieldFound? (ma_C ci) (ma_T ci f).2.1 (ma_T ci f).2.2.1 = some (cf, kf, fi, fd) := by
    rw [ma_decl_ok ci hci f hf] at hi; exact hi
  refine W.putK hx hb (f := fd) (own := ma_own o) (ref := ma_C ci) (index := i) ⟨ho, hts _ (ma_fl_word hl), ⟨_, _, _, hi2⟩, hst⟩ (by rw [q2]; exact h6) q1 q3 (by rw [hsl]; exact k2_hasslot (q4 f hf)) rfl rfl hd fun H' e1 e2 e3 => ?_
  rw [hsl] at e1 ⊢
  refine hk H' _ ?_ (hS.put e2 e3 (hA.2.1 kk r hv h2))
  refine hH.keep hA hv rfl e3 (fun k' r' i' hne => ?_) ⟨fun z => by omega, fun ci' hc' => ?_⟩ (Or.inr (by omega))
  · show (if k' = kk ∧ r' = r ∧ i' = (f : Int) then v else μ k' r' i') = μ k' r' i'
    rw [if_neg (fun z => hne ⟨z.1, z.2.1⟩)]
  · have hcc : ci' = ci := by omega
    subst hcc
    have hupd : ∀ j : Nat, j ≠ f → ma_up μ kk r f v kk r j = μ kk r j := fun j hj => by
      show (if kk = kk ∧ r = r ∧ (j : Int) = (f : Int) then v else μ kk r j) = _
      rw [if_neg (fun z => hj (by exact_mod_cast z.2.2))]
    refine ⟨t_OB.to (V := updV (fun f => ma_fv G μ kk r ci' f) f w) ⟨_, e1, q2, q3, t_set q4 hap hf w⟩ (fun j hj => ?_), fun j hj => ?_⟩
    · by_cases hjf : j = f
      · subst hjf; simp only [updV, if_true]; exact hw.symm
      · simp only [updV, if_neg hjf, ma_fv, hupd j hjf]
    · by_cases hjf : j = f
      · subst hjf
        show ma_fcan G kk ci' j (if kk = kk ∧ r = r ∧ (j : Int) = (j : Int) then v else μ kk r j)
        rw [if_pos ⟨rfl, rfl, rfl⟩]; exact hcan
      · rw [hupd j hjf]; exact hca j hj
/-- a place of an array, as the machine counts it -/
theorem ma_idx {x : Int32} {i : Int} {n : Nat} (hx : x.toInt = i) (h : 0 ≤ i ∧ i < (n : Int)) : ¬ (x < 0 ∨ n ≤ x.toNatClampNeg) ∧ x.toNatClampNeg = i.toNat ∧ x.toNatClampNeg < n ∧ ((x.toNatClampNeg : Nat) : Int) = i := by
  have e : x.toNatClampNeg = i.toNat := by rw [← hx]; rfl
  have h1 : ¬ x < 0 := fun z => by
    rw [Int32.lt_iff_toInt_lt, hx] at z
    have : (0 : Int32).toInt = 0 := rfl
    omega
  refine ⟨fun z => ?_, e, by omega, by omega⟩
  rcases z with z | z
  · exact h1 z
  · omega
theorem ma_arr (C : ma_Cx p s m args c G cc o nL) {kk : Nat} {r : Int} (hH : ma_HR G s μ H) (hv : ma_val G kk r) (hc : (ma_ck kk).1 ≤ 4) :
    H[G.ad kk r]? = some (arrV (G.dA (ma_ck kk).1) (ma_ck kk).2.1 (fun j => ma_cv (ma_ck kk).1 (μ kk r j))) ∧ s.isArrayOf (arrV (G.dA (ma_ck kk).1) (ma_ck kk).2.1 (fun j => ma_cv (ma_ck kk).1 (μ kk r j))) (ma_fat (ma_ck kk).1) ∧ ∀ i : Int, 0 ≤ i → i < ((ma_ck kk).2.1 : Int) → ma_can (ma_ck kk).1 (μ kk r i) := by
  obtain ⟨h1, h2⟩ := (hH kk r hv).1 hc
  exact ⟨h1, C.2.2.2.2.2.1.1 _ (by omega) _ _, h2⟩
/-- what a store into an array leaves -/
theorem ma_stA (C : ma_Cx p s m args c G cc o nL) {kk : Nat} {r : Int} {i v : Int} {w : Value} {H' : Heap} {j : Nat} (hH : ma_HR G s μ H) (hS : va_S (ma_A G) s.heap H locs) (hv : ma_val G kk r) (h2 : 2 ≤ kk) (hc : (ma_ck kk).1 ≤ 4) (hj : (j : Int) = i)
    (e1 : H'[G.ad kk r]? = some ((arrV (G.dA (ma_ck kk).1) (ma_ck kk).2.1 (fun j => ma_cv (ma_ck kk).1 (μ kk r j))).setSlot j w)) (e2 : H'.size = H.size) (e3 : ∀ q, q ≠ G.ad kk r → H'[q]? = H[q]?) (hw : ma_cv (ma_ck kk).1 v = w) (hcan : ma_can (ma_ck kk).1 v) :
    ma_HR G s (ma_up μ kk r i v) H' ∧ va_S (ma_A G) s.heap H' (locs ++ [⟨G.ad kk r, j⟩]) := by
  obtain ⟨hx, hb, hml, ho, hts, hK, hA, hsz⟩ := C
  refine ⟨?_, hS.put e2 e3 (hA.2.1 kk r hv h2)⟩
  have hca := ((hH kk r hv).1 hc).2
  refine hH.keep hA hv rfl e3 (fun k' r' i' hne => ?_) ⟨fun _ => ⟨?_, fun x hx0 hx1 => ?_⟩, fun ci hci => by omega⟩ (Or.inl hc)
  · show (if k' = kk ∧ r' = r ∧ i' = i then v else μ k' r' i') = μ k' r' i'
    rw [if_neg (fun z => hne ⟨z.1, z.2.1⟩)]
  · rw [e1, arrV_store]
    congr 2
    funext x
    show (if x = j then w else _) = ma_cv _ (if kk = kk ∧ r = r ∧ (x : Int) = i then v else μ kk r x)
    by_cases hxj : x = j
    · subst hxj
      rw [if_pos rfl, if_pos ⟨rfl, rfl, hj⟩, hw]
    · rw [if_neg hxj, if_neg (fun z => hxj (by have := z.2.2; omega))]
  · show ma_can _ (if kk = kk ∧ r = r ∧ x = i then v else μ kk r x)
    by_cases hxi : x = i
    · rw [if_pos ⟨rfl, rfl, hxi⟩]; exact hcan
    · rw [if_neg (fun z => hxi z.2.2)]; exact hca x hx0 hx1
theorem ma_rng (x : Int32) : -2147483648 ≤ x.toInt ∧ x.toInt < 2147483648 := ⟨Int32.le_toInt x, Int32.toInt_lt x⟩
theorem ma_rngL (x : Int64) : -9223372036854775808 ≤ x.toInt ∧ x.toInt < 9223372036854775808 := ⟨Int64.le_toInt x, Int64.toInt_lt x⟩
theorem ma_back {n : Int} (h : -2147483648 ≤ n ∧ n < 2147483648) : (Int32.ofInt n).toInt = n := by
  rw [Int32.toInt_ofInt]; show Int.bmod n 4294967296 = n; simp only [Int.bmod_def]; omega
theorem ma_backL {n : Int} (h : -9223372036854775808 ≤ n ∧ n < 9223372036854775808) : (Int64.ofInt n).toInt = n := by
  rw [Int64.toInt_ofInt]; show Int.bmod n 18446744073709551616 = n; simp only [Int.bmod_def]; omega
end MEM
