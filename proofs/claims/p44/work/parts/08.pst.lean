/-! one instruction of the small machine: those that are no call and no end -/
theorem ma_pI_e {st : List ma_V} {f : Int → List ma_V → Prop} (h : ma_pI st f) : ∃ n st', st = ma_I n :: st' ∧ f n st' := by
  rcases st with _ | ⟨n | n | a | b | b | q | u, st⟩ <;> first | exact ⟨_, _, rfl, h⟩ | exact h.elim
theorem ma_gI_e {v : ma_V} {f : Int → Prop} (h : ma_gI v f) : ∃ n, v = ma_I n ∧ f n := by
  rcases v with n | n | a | b | b | q | u <;> first | exact ⟨_, rfl, h⟩ | exact h.elim
theorem ma_pL_e {st : List ma_V} {f : Int → List ma_V → Prop} (h : ma_pL st f) : ∃ n st', st = ma_L n :: st' ∧ f n st' := by
  rcases st with _ | ⟨n | n | a | b | b | q | u, st⟩ <;> first | exact ⟨_, _, rfl, h⟩ | exact h.elim
theorem ma_gL_e {v : ma_V} {f : Int → Prop} (h : ma_gL v f) : ∃ n, v = ma_L n ∧ f n := by
  rcases v with n | n | a | b | b | q | u <;> first | exact ⟨_, rfl, h⟩ | exact h.elim
theorem ma_pD_e {st : List ma_V} {f : UInt64 → List ma_V → Prop} (h : ma_pD st f) : ∃ n st', st = ma_D n :: st' ∧ f n st' := by
  rcases st with _ | ⟨n | n | a | b | b | q | u, st⟩ <;> first | exact ⟨_, _, rfl, h⟩ | exact h.elim
theorem ma_gD_e {v : ma_V} {f : UInt64 → Prop} (h : ma_gD v f) : ∃ n, v = ma_D n ∧ f n := by
  rcases v with n | n | a | b | b | q | u <;> first | exact ⟨_, rfl, h⟩ | exact h.elim
theorem ma_pF_e {st : List ma_V} {f : UInt32 → List ma_V → Prop} (h : ma_pF st f) : ∃ n st', st = ma_F n :: st' ∧ f n st' := by
  rcases st with _ | ⟨n | n | a | b | b | q | u, st⟩ <;> first | exact ⟨_, _, rfl, h⟩ | exact h.elim
theorem ma_gF_e {v : ma_V} {f : UInt32 → Prop} (h : ma_gF v f) : ∃ n, v = ma_F n ∧ f n := by
  rcases v with n | n | a | b | b | q | u <;> first | exact ⟨_, rfl, h⟩ | exact h.elim
theorem ma_pR_e {st : List ma_V} {f : Nat → Int → List ma_V → Prop} (h : ma_pR st f) : ∃ a r st', st = ma_Rf a r :: st' ∧ f a r st' := by
  rcases st with _ | ⟨n | n | a | b | b | q | u, st⟩ <;> first | exact ⟨_, _, _, rfl, h⟩ | exact h.elim
theorem ma_gR_e {v : ma_V} {f : Nat → Int → Prop} (h : ma_gR v f) : ∃ a r, v = ma_Rf a r ∧ f a r := by
  rcases v with n | n | a | b | b | q | u <;> first | exact ⟨_, _, rfl, h⟩ | exact h.elim
theorem ma_pA_e {st : List ma_V} {f : ma_V → List ma_V → Prop} (h : ma_pA st f) : ∃ v st', st = v :: st' ∧ ma_c2 v = false ∧ v ≠ ma_U ∧ f v st' := by
  rcases st with _ | ⟨v, st⟩
  · exact h.elim
  · exact ⟨_, _, rfl, h⟩
theorem ma_p0_e {st : List ma_V} {f : Prop} (h : ma_p0 st f) : st = [] ∧ f := by
  rcases st with _ | ⟨v, st⟩
  · exact ⟨rfl, h⟩
  · exact h.elim
theorem ma_wI_id {n : Int} (h : ma_r32 n) : ma_wI n = n := by
  obtain ⟨h1, h2⟩ := h
  simp only [ma_wI, Int.bmod_def]
  omega
theorem ma_neU_I {n : Int} : ma_I n ≠ ma_U := fun z => by cases z
theorem ma_neU_L {n : Int} : ma_L n ≠ ma_U := fun z => by cases z
theorem ma_neU_R {a : Nat} {r : Int} : ma_Rf a r ≠ ma_U := fun z => by cases z
theorem ma_neU_D {n : UInt64} : ma_D n ≠ ma_U := fun z => by cases z
theorem ma_neU_F {n : UInt32} : ma_F n ≠ ma_U := fun z => by cases z
theorem ma_f_remK (a b : Int32) : (a - a / b * b).toInt = a.toInt.tmod b.toInt := by
  have e : (a - a / b * b).toInt = (a.toInt - a.toInt.tdiv b.toInt * b.toInt).bmod 4294967296 := by simp [Int32.toInt_div]
  have h1 := Int.tmod_def a.toInt b.toInt
  rw [Int.mul_comm] at h1
  have h2 := ma_rng (a % b)
  rw [ma_f_rem] at h2
  rw [e, ← h1]
  simp only [Int.bmod_def]
  omega
theorem ma_f_lremK (a b : Int64) : (a - a / b * b).toInt = a.toInt.tmod b.toInt := by
  have e : (a - a / b * b).toInt = (a.toInt - a.toInt.tdiv b.toInt * b.toInt).bmod 18446744073709551616 := by simp [Int64.toInt_div]
  have h1 := Int.tmod_def a.toInt b.toInt
  rw [Int.mul_comm] at h1
  have h2 := ma_rngL (a % b)
  rw [ma_f_lrem] at h2
  rw [e, ← h1]
  simp only [Int.bmod_def]
  omega
theorem ma_f_cmp (a b : Int64) : (lg_cmp a b).toInt = if b.toInt < a.toInt then 1 else if a.toInt = b.toInt then 0 else -1 := by
  unfold lg_cmp
  simp only [gt_iff_lt, Int64.lt_iff_toInt_lt, ← Int64.toInt_inj]
  split
  · rfl
  · split <;> rfl
section PST
variable {p : Program} {l : Launch} {e : Env} {R : Room} {s : State} {m : MethodId} {args : Array Value} {below : List Frame} {meth : Method} {c : Code} {Q : State → Prop} {G : ma_G} {cc : ByteArray} {o nL c0 s0 pc k pp : Nat} {qq : Int} {ls st : List ma_V} {μ : ma_M} {O : ma_O} {E : ma_E} {K : ma_K} {J : ma_J} {D : ma_Dn}
theorem ma_ldcwF {H : Heap} {locs : List Loc} {als : Array Slot} {cells slots : Nat} {rest : List Value} (hexec : p.tables.exec = Jvm.exec) (hb : c.code = cc) {own : String} {index : Nat} {v : UInt32} (hown : s.vm.findClass own = some m.cls) (hconst : (Jvm.Cond.constantFloat own index v).before args s = true) (hdg : decode cc pc = .ok (.ldc_w index, 3)) (hk : W p l e R s m args below meth c H locs cells slots Q (F0 m (pc + 3) als (.float v :: rest))) : W p l e R s m args below meth c H locs cells slots Q (F0 m pc als rest) := by
  intro T hT X
  obtain ⟨t, a, b⟩ := hk T hT X
  refine ⟨t, ?_, b⟩
  obtain ⟨k, cf, hk1, hcf, hc⟩ := Cond.constantFloat_spec hown hconst
  obtain ⟨k', hk', he⟩ := X.warmed.alike.2.2 _ _ hk1
  have hdg : decode c.code (F0 m pc als rest).pc = .ok (.ldc_w index, 3) := by rw [hb]; exact hdg
  jvm_step X.here [hexec, hdg, ldc_w.wp_float (s := T) (f := F0 m pc als rest) X.here.top hk' (by rw [he]; exact hcf) hc]
  exact a
theorem ma_s_iload_n {i : Fin 4} (C : ma_Cx p s m args c G cc o nL) (hd : decode cc pc = .ok (.iload_n i, 1)) (hK : ∀ ls st k μ, K ls st k μ → ma_W p l e R s m args below meth c Q G nL c0 s0 (pc + 1) ls st k μ) (hJ : ∀ pc' ls st k μ, J pc' ls st k μ → ma_W p l e R s m args below meth c Q G nL c0 s0 pc' ls st k μ) (h : ma_step O E (.iload_n i) pp qq pc ls st k μ K J D) : ma_W p l e R s m args below meth c Q G nL c0 s0 pc ls st k μ := by
  obtain ⟨n, hg, h⟩ := ma_gI_e h
  refine ma_load ma_neU_I hg (fun w hw H locs als cells slots rest hal hk => ?_) (hK _ _ _ _ h)
  obtain ⟨x, rfl, -⟩ := hw
  exact lv_iload_n C.1 C.2.1 hd rfl hal hk
theorem ma_s_lload_n {i : Fin 4} (C : ma_Cx p s m args c G cc o nL) (hd : decode cc pc = .ok (.lload_n i, 1)) (hK : ∀ ls st k μ, K ls st k μ → ma_W p l e R s m args below meth c Q G nL c0 s0 (pc + 1) ls st k μ) (hJ : ∀ pc' ls st k μ, J pc' ls st k μ → ma_W p l e R s m args below meth c Q G nL c0 s0 pc' ls st k μ) (h : ma_step O E (.lload_n i) pp qq pc ls st k μ K J D) : ma_W p l e R s m args below meth c Q G nL c0 s0 pc ls st k μ := by
  obtain ⟨n, hg, h⟩ := ma_gL_e h
  refine ma_load ma_neU_L hg (fun w hw H locs als cells slots rest hal hk => ?_) (hK _ _ _ _ h)
  obtain ⟨x, rfl, -⟩ := hw
  exact lv_lload_n C.1 C.2.1 hd rfl hal hk
theorem ma_s_dload_n {i : Fin 4} (C : ma_Cx p s m args c G cc o nL) (hd : decode cc pc = .ok (.dload_n i, 1)) (hK : ∀ ls st k μ, K ls st k μ → ma_W p l e R s m args below meth c Q G nL c0 s0 (pc + 1) ls st k μ) (hJ : ∀ pc' ls st k μ, J pc' ls st k μ → ma_W p l e R s m args below meth c Q G nL c0 s0 pc' ls st k μ) (h : ma_step O E (.dload_n i) pp qq pc ls st k μ K J D) : ma_W p l e R s m args below meth c Q G nL c0 s0 pc ls st k μ := by
  obtain ⟨n, hg, h⟩ := ma_gD_e h
  refine ma_load ma_neU_D hg (fun w hw H locs als cells slots rest hal hk => ?_) (hK _ _ _ _ h)
  cases hw
  exact lv_dload_n C.1 C.2.1 hd rfl hal hk
theorem ma_s_aload_n {i : Fin 4} (C : ma_Cx p s m args c G cc o nL) (hd : decode cc pc = .ok (.aload_n i, 1)) (hK : ∀ ls st k μ, K ls st k μ → ma_W p l e R s m args below meth c Q G nL c0 s0 (pc + 1) ls st k μ) (hJ : ∀ pc' ls st k μ, J pc' ls st k μ → ma_W p l e R s m args below meth c Q G nL c0 s0 pc' ls st k μ) (h : ma_step O E (.aload_n i) pp qq pc ls st k μ K J D) : ma_W p l e R s m args below meth c Q G nL c0 s0 pc ls st k μ := by
  obtain ⟨a, r, hg, h⟩ := ma_gR_e (v := ls.getD i.val ma_U) (f := fun a r => K ls (ma_Rf a r :: st) k μ) h
  refine ma_load ma_neU_R hg (fun w hw H locs als cells slots rest hal hk => ?_) (hK _ _ _ _ h)
  obtain ⟨rfl, -⟩ := hw
  exact lv_aload_n C.1 C.2.1 hd rfl hal hk
theorem ma_s_iload {i : Nat} (C : ma_Cx p s m args c G cc o nL) (hd : decode cc pc = .ok (.iload i, 2)) (hK : ∀ ls st k μ, K ls st k μ → ma_W p l e R s m args below meth c Q G nL c0 s0 (pc + 2) ls st k μ) (hJ : ∀ pc' ls st k μ, J pc' ls st k μ → ma_W p l e R s m args below meth c Q G nL c0 s0 pc' ls st k μ) (h : ma_step O E (.iload i) pp qq pc ls st k μ K J D) : ma_W p l e R s m args below meth c Q G nL c0 s0 pc ls st k μ := by
  obtain ⟨n, hg, h⟩ := ma_gI_e h
  refine ma_load ma_neU_I hg (fun w hw H locs als cells slots rest hal hk => ?_) (hK _ _ _ _ h)
  obtain ⟨x, rfl, -⟩ := hw
  exact lv_iload C.1 C.2.1 hd hal hk
theorem ma_s_lload {i : Nat} (C : ma_Cx p s m args c G cc o nL) (hd : decode cc pc = .ok (.lload i, 2)) (hK : ∀ ls st k μ, K ls st k μ → ma_W p l e R s m args below meth c Q G nL c0 s0 (pc + 2) ls st k μ) (hJ : ∀ pc' ls st k μ, J pc' ls st k μ → ma_W p l e R s m args below meth c Q G nL c0 s0 pc' ls st k μ) (h : ma_step O E (.lload i) pp qq pc ls st k μ K J D) : ma_W p l e R s m args below meth c Q G nL c0 s0 pc ls st k μ := by
  obtain ⟨n, hg, h⟩ := ma_gL_e h
  refine ma_load ma_neU_L hg (fun w hw H locs als cells slots rest hal hk => ?_) (hK _ _ _ _ h)
  obtain ⟨x, rfl, -⟩ := hw
  exact lv_lload C.1 C.2.1 hd hal hk
theorem ma_s_dload {i : Nat} (C : ma_Cx p s m args c G cc o nL) (hd : decode cc pc = .ok (.dload i, 2)) (hK : ∀ ls st k μ, K ls st k μ → ma_W p l e R s m args below meth c Q G nL c0 s0 (pc + 2) ls st k μ) (hJ : ∀ pc' ls st k μ, J pc' ls st k μ → ma_W p l e R s m args below meth c Q G nL c0 s0 pc' ls st k μ) (h : ma_step O E (.dload i) pp qq pc ls st k μ K J D) : ma_W p l e R s m args below meth c Q G nL c0 s0 pc ls st k μ := by
  obtain ⟨n, hg, h⟩ := ma_gD_e h
  refine ma_load ma_neU_D hg (fun w hw H locs als cells slots rest hal hk => ?_) (hK _ _ _ _ h)
  cases hw
  exact lv_dload C.1 C.2.1 hd hal hk
theorem ma_s_fload {i : Nat} (C : ma_Cx p s m args c G cc o nL) (hd : decode cc pc = .ok (.fload i, 2)) (hK : ∀ ls st k μ, K ls st k μ → ma_W p l e R s m args below meth c Q G nL c0 s0 (pc + 2) ls st k μ) (hJ : ∀ pc' ls st k μ, J pc' ls st k μ → ma_W p l e R s m args below meth c Q G nL c0 s0 pc' ls st k μ) (h : ma_step O E (.fload i) pp qq pc ls st k μ K J D) : ma_W p l e R s m args below meth c Q G nL c0 s0 pc ls st k μ := by
  obtain ⟨n, hg, h⟩ := ma_gF_e h
  refine ma_load ma_neU_F hg (fun w hw H locs als cells slots rest hal hk => ?_) (hK _ _ _ _ h)
  cases hw
  exact lv_fload C.1 C.2.1 hd hal hk
theorem ma_s_aload {i : Nat} (C : ma_Cx p s m args c G cc o nL) (hd : decode cc pc = .ok (.aload i, 2)) (hK : ∀ ls st k μ, K ls st k μ → ma_W p l e R s m args below meth c Q G nL c0 s0 (pc + 2) ls st k μ) (hJ : ∀ pc' ls st k μ, J pc' ls st k μ → ma_W p l e R s m args below meth c Q G nL c0 s0 pc' ls st k μ) (h : ma_step O E (.aload i) pp qq pc ls st k μ K J D) : ma_W p l e R s m args below meth c Q G nL c0 s0 pc ls st k μ := by
  obtain ⟨a, r, hg, h⟩ := ma_gR_e (v := ls.getD i ma_U) (f := fun a r => K ls (ma_Rf a r :: st) k μ) h
  refine ma_load ma_neU_R hg (fun w hw H locs als cells slots rest hal hk => ?_) (hK _ _ _ _ h)
  obtain ⟨rfl, -⟩ := hw
  exact lv_aload C.1 C.2.1 hd hal hk
theorem ma_s_istore_n {i : Fin 4} (C : ma_Cx p s m args c G cc o nL) (hd : decode cc pc = .ok (.istore_n i, 1)) (hK : ∀ ls st k μ, K ls st k μ → ma_W p l e R s m args below meth c Q G nL c0 s0 (pc + 1) ls st k μ) (hJ : ∀ pc' ls st k μ, J pc' ls st k μ → ma_W p l e R s m args below meth c Q G nL c0 s0 pc' ls st k μ) (h : ma_step O E (.istore_n i) pp qq pc ls st k μ K J D) : ma_W p l e R s m args below meth c Q G nL c0 s0 pc ls st k μ := by
  obtain ⟨n, st, rfl, hi, h⟩ := ma_pI_e h
  refine ma_sto1 hi (fun w hw H locs als cells slots rest lv hn hal hk => ?_) (hK _ _ _ _ h)
  obtain ⟨x, rfl, -⟩ := hw
  exact lv_istore_n C.1 C.2.1 hd rfl hal hn rfl hk
theorem ma_s_lstore_n {i : Fin 4} (C : ma_Cx p s m args c G cc o nL) (hd : decode cc pc = .ok (.lstore_n i, 1)) (hK : ∀ ls st k μ, K ls st k μ → ma_W p l e R s m args below meth c Q G nL c0 s0 (pc + 1) ls st k μ) (hJ : ∀ pc' ls st k μ, J pc' ls st k μ → ma_W p l e R s m args below meth c Q G nL c0 s0 pc' ls st k μ) (h : ma_step O E (.lstore_n i) pp qq pc ls st k μ K J D) : ma_W p l e R s m args below meth c Q G nL c0 s0 pc ls st k μ := by
  obtain ⟨n, st, rfl, hi, h⟩ := ma_pL_e h
  refine ma_sto2 hi (fun w hw H locs als cells slots rest lv hn hal hk => ?_) (hK _ _ _ _ h)
  obtain ⟨x, rfl, -⟩ := hw
  exact lv_lstore_n C.1 C.2.1 hd rfl hal hn rfl hk
theorem ma_s_dstore_n {i : Fin 4} (C : ma_Cx p s m args c G cc o nL) (hd : decode cc pc = .ok (.dstore_n i, 1)) (hK : ∀ ls st k μ, K ls st k μ → ma_W p l e R s m args below meth c Q G nL c0 s0 (pc + 1) ls st k μ) (hJ : ∀ pc' ls st k μ, J pc' ls st k μ → ma_W p l e R s m args below meth c Q G nL c0 s0 pc' ls st k μ) (h : ma_step O E (.dstore_n i) pp qq pc ls st k μ K J D) : ma_W p l e R s m args below meth c Q G nL c0 s0 pc ls st k μ := by
  obtain ⟨n, st, rfl, hi, h⟩ := ma_pD_e h
  refine ma_sto2 hi (fun w hw H locs als cells slots rest lv hn hal hk => ?_) (hK _ _ _ _ h)
  cases hw
  exact lv_dstore_n C.1 C.2.1 hd rfl hal hn rfl hk
theorem ma_s_istore {i : Nat} (C : ma_Cx p s m args c G cc o nL) (hd : decode cc pc = .ok (.istore i, 2)) (hK : ∀ ls st k μ, K ls st k μ → ma_W p l e R s m args below meth c Q G nL c0 s0 (pc + 2) ls st k μ) (hJ : ∀ pc' ls st k μ, J pc' ls st k μ → ma_W p l e R s m args below meth c Q G nL c0 s0 pc' ls st k μ) (h : ma_step O E (.istore i) pp qq pc ls st k μ K J D) : ma_W p l e R s m args below meth c Q G nL c0 s0 pc ls st k μ := by
  obtain ⟨n, st, rfl, hi, h⟩ := ma_pI_e h
  refine ma_sto1 hi (fun w hw H locs als cells slots rest lv hn hal hk => ?_) (hK _ _ _ _ h)
  obtain ⟨x, rfl, -⟩ := hw
  exact lv_istore C.1 C.2.1 hd hal hn rfl hk
theorem ma_s_lstore {i : Nat} (C : ma_Cx p s m args c G cc o nL) (hd : decode cc pc = .ok (.lstore i, 2)) (hK : ∀ ls st k μ, K ls st k μ → ma_W p l e R s m args below meth c Q G nL c0 s0 (pc + 2) ls st k μ) (hJ : ∀ pc' ls st k μ, J pc' ls st k μ → ma_W p l e R s m args below meth c Q G nL c0 s0 pc' ls st k μ) (h : ma_step O E (.lstore i) pp qq pc ls st k μ K J D) : ma_W p l e R s m args below meth c Q G nL c0 s0 pc ls st k μ := by
  obtain ⟨n, st, rfl, hi, h⟩ := ma_pL_e h
  refine ma_sto2 hi (fun w hw H locs als cells slots rest lv hn hal hk => ?_) (hK _ _ _ _ h)
  obtain ⟨x, rfl, -⟩ := hw
  exact lv_lstore C.1 C.2.1 hd hal hn rfl hk
theorem ma_s_dstore {i : Nat} (C : ma_Cx p s m args c G cc o nL) (hd : decode cc pc = .ok (.dstore i, 2)) (hK : ∀ ls st k μ, K ls st k μ → ma_W p l e R s m args below meth c Q G nL c0 s0 (pc + 2) ls st k μ) (hJ : ∀ pc' ls st k μ, J pc' ls st k μ → ma_W p l e R s m args below meth c Q G nL c0 s0 pc' ls st k μ) (h : ma_step O E (.dstore i) pp qq pc ls st k μ K J D) : ma_W p l e R s m args below meth c Q G nL c0 s0 pc ls st k μ := by
  obtain ⟨n, st, rfl, hi, h⟩ := ma_pD_e h
  refine ma_sto2 hi (fun w hw H locs als cells slots rest lv hn hal hk => ?_) (hK _ _ _ _ h)
  cases hw
  exact lv_dstore C.1 C.2.1 hd hal hn rfl hk
theorem ma_s_fstore {i : Nat} (C : ma_Cx p s m args c G cc o nL) (hd : decode cc pc = .ok (.fstore i, 2)) (hK : ∀ ls st k μ, K ls st k μ → ma_W p l e R s m args below meth c Q G nL c0 s0 (pc + 2) ls st k μ) (hJ : ∀ pc' ls st k μ, J pc' ls st k μ → ma_W p l e R s m args below meth c Q G nL c0 s0 pc' ls st k μ) (h : ma_step O E (.fstore i) pp qq pc ls st k μ K J D) : ma_W p l e R s m args below meth c Q G nL c0 s0 pc ls st k μ := by
  obtain ⟨n, st, rfl, hi, h⟩ := ma_pF_e h
  refine ma_sto1 hi (fun w hw H locs als cells slots rest lv hn hal hk => ?_) (hK _ _ _ _ h)
  cases hw
  exact lv_fstore C.1 C.2.1 hd hal hn rfl hk
theorem ma_s_astore_n {i : Fin 4} (C : ma_Cx p s m args c G cc o nL) (hd : decode cc pc = .ok (.astore_n i, 1)) (hK : ∀ ls st k μ, K ls st k μ → ma_W p l e R s m args below meth c Q G nL c0 s0 (pc + 1) ls st k μ) (hJ : ∀ pc' ls st k μ, J pc' ls st k μ → ma_W p l e R s m args below meth c Q G nL c0 s0 pc' ls st k μ) (h : ma_step O E (.astore_n i) pp qq pc ls st k μ K J D) : ma_W p l e R s m args below meth c Q G nL c0 s0 pc ls st k μ := by
  rcases st with _ | ⟨n | n | a | b | b | q | u, st⟩ <;> first | exact h.elim | skip
  · obtain ⟨hi, h⟩ := h
    refine ma_sto1 hi (fun w hw H locs als cells slots rest lv hn hal hk => ?_) (hK _ _ _ _ h)
    obtain ⟨rfl, -⟩ := hw
    exact lv_astore_n C.1 C.2.1 hd rfl hal hn rfl hk
  · obtain ⟨hi, h⟩ := h
    refine ma_sto1 hi (fun w hw H locs als cells slots rest lv hn hal hk => ?_) (hK _ _ _ _ h)
    obtain ⟨q9, rfl⟩ := hw
    exact lv_astore_n C.1 C.2.1 hd rfl hal hn rfl hk
theorem ma_s_astore {i : Nat} (C : ma_Cx p s m args c G cc o nL) (hd : decode cc pc = .ok (.astore i, 2)) (hK : ∀ ls st k μ, K ls st k μ → ma_W p l e R s m args below meth c Q G nL c0 s0 (pc + 2) ls st k μ) (hJ : ∀ pc' ls st k μ, J pc' ls st k μ → ma_W p l e R s m args below meth c Q G nL c0 s0 pc' ls st k μ) (h : ma_step O E (.astore i) pp qq pc ls st k μ K J D) : ma_W p l e R s m args below meth c Q G nL c0 s0 pc ls st k μ := by
  rcases st with _ | ⟨n | n | a | b | b | q | u, st⟩ <;> first | exact h.elim | skip
  · obtain ⟨hi, h⟩ := h
    refine ma_sto1 hi (fun w hw H locs als cells slots rest lv hn hal hk => ?_) (hK _ _ _ _ h)
    obtain ⟨rfl, -⟩ := hw
    exact lv_astore C.1 C.2.1 hd hal hn rfl hk
  · obtain ⟨hi, h⟩ := h
    refine ma_sto1 hi (fun w hw H locs als cells slots rest lv hn hal hk => ?_) (hK _ _ _ _ h)
    obtain ⟨q9, rfl⟩ := hw
    exact lv_astore C.1 C.2.1 hd hal hn rfl hk
theorem ma_s_iconst {n : Int} (hq : (Int32.ofInt n).toInt = qq) (C : ma_Cx p s m args c G cc o nL) (hd : decode cc pc = .ok (.iconst n, 1)) (hK : ∀ ls st k μ, K ls st k μ → ma_W p l e R s m args below meth c Q G nL c0 s0 (pc + 1) ls st k μ) (hJ : ∀ pc' ls st k μ, J pc' ls st k μ → ma_W p l e R s m args below meth c Q G nL c0 s0 pc' ls st k μ) (h : ma_step O E (.iconst n) pp qq pc ls st k μ K J D) : ma_W p l e R s m args below meth c Q G nL c0 s0 pc ls st k μ := by
  exact ma_psh (v := ma_I qq) (w := .int (Int32.ofInt n)) ⟨_, rfl, hq⟩ (fun H locs als cells slots rest hk => lv_iconst C.1 C.2.1 hd rfl hk) (hK _ _ _ _ h)
theorem ma_s_bipush {n : Int} (hq : (Int8.ofInt n).toInt32.toInt = qq) (C : ma_Cx p s m args c G cc o nL) (hd : decode cc pc = .ok (.bipush n, 2)) (hK : ∀ ls st k μ, K ls st k μ → ma_W p l e R s m args below meth c Q G nL c0 s0 (pc + 2) ls st k μ) (hJ : ∀ pc' ls st k μ, J pc' ls st k μ → ma_W p l e R s m args below meth c Q G nL c0 s0 pc' ls st k μ) (h : ma_step O E (.bipush n) pp qq pc ls st k μ K J D) : ma_W p l e R s m args below meth c Q G nL c0 s0 pc ls st k μ := by
  exact ma_psh (v := ma_I qq) (w := .int (Int8.ofInt n).toInt32) ⟨_, rfl, hq⟩ (fun H locs als cells slots rest hk => lv_bipush C.1 C.2.1 hd rfl hk) (hK _ _ _ _ h)
theorem ma_s_sipush {n : Int} (hq : (Int16.ofInt n).toInt32.toInt = qq) (C : ma_Cx p s m args c G cc o nL) (hd : decode cc pc = .ok (.sipush n, 3)) (hK : ∀ ls st k μ, K ls st k μ → ma_W p l e R s m args below meth c Q G nL c0 s0 (pc + 3) ls st k μ) (hJ : ∀ pc' ls st k μ, J pc' ls st k μ → ma_W p l e R s m args below meth c Q G nL c0 s0 pc' ls st k μ) (h : ma_step O E (.sipush n) pp qq pc ls st k μ K J D) : ma_W p l e R s m args below meth c Q G nL c0 s0 pc ls st k μ := by
  exact ma_psh (v := ma_I qq) (w := .int (Int16.ofInt n).toInt32) ⟨_, rfl, hq⟩ (fun H locs als cells slots rest hk => lv_sipush C.1 C.2.1 hd rfl hk) (hK _ _ _ _ h)
theorem ma_s_lconst {n : Fin 2} (hq : (Int64.ofNat n.val).toInt = qq) (C : ma_Cx p s m args c G cc o nL) (hd : decode cc pc = .ok (.lconst n, 1)) (hK : ∀ ls st k μ, K ls st k μ → ma_W p l e R s m args below meth c Q G nL c0 s0 (pc + 1) ls st k μ) (hJ : ∀ pc' ls st k μ, J pc' ls st k μ → ma_W p l e R s m args below meth c Q G nL c0 s0 pc' ls st k μ) (h : ma_step O E (.lconst n) pp qq pc ls st k μ K J D) : ma_W p l e R s m args below meth c Q G nL c0 s0 pc ls st k μ := by
  exact ma_psh (v := ma_L qq) (w := .long (Int64.ofNat n.val)) ⟨_, rfl, hq⟩ (fun H locs als cells slots rest hk => lv_lconst C.1 C.2.1 hd rfl hk) (hK _ _ _ _ h)
theorem ma_s_dconst {n : Fin 2} (C : ma_Cx p s m args c G cc o nL) (hd : decode cc pc = .ok (.dconst n, 1)) (hK : ∀ ls st k μ, K ls st k μ → ma_W p l e R s m args below meth c Q G nL c0 s0 (pc + 1) ls st k μ) (hJ : ∀ pc' ls st k μ, J pc' ls st k μ → ma_W p l e R s m args below meth c Q G nL c0 s0 pc' ls st k μ) (h : ma_step O E (.dconst n) pp qq pc ls st k μ K J D) : ma_W p l e R s m args below meth c Q G nL c0 s0 pc ls st k μ := by
  match n, hd, h with
  | 0, hd, h => exact ma_psh (v := ma_D 0) (w := .double 0) rfl (fun H locs als cells slots rest hk => lv_dconst0 C.1 C.2.1 hd hk) (hK _ _ _ _ h)
  | 1, hd, h => exact ma_psh (v := ma_D 4607182418800017408) (w := .double 4607182418800017408) rfl (fun H locs als cells slots rest hk => lv_dconst1 C.1 C.2.1 hd hk) (hK _ _ _ _ h)
theorem ma_s_fconst {n : Fin 3} (C : ma_Cx p s m args c G cc o nL) (hd : decode cc pc = .ok (.fconst n, 1)) (hK : ∀ ls st k μ, K ls st k μ → ma_W p l e R s m args below meth c Q G nL c0 s0 (pc + 1) ls st k μ) (hJ : ∀ pc' ls st k μ, J pc' ls st k μ → ma_W p l e R s m args below meth c Q G nL c0 s0 pc' ls st k μ) (h : ma_step O E (.fconst n) pp qq pc ls st k μ K J D) : ma_W p l e R s m args below meth c Q G nL c0 s0 pc ls st k μ := by
  match n, hd, h with
  | 0, hd, h => exact ma_psh (v := ma_F 0) (w := .float 0) rfl (fun H locs als cells slots rest hk => lv_fconst0 C.1 C.2.1 hd hk) (hK _ _ _ _ h)
  | 1, hd, h => exact ma_psh (v := ma_F 1065353216) (w := .float 1065353216) rfl (fun H locs als cells slots rest hk => lv_fconst1 C.1 C.2.1 hd hk) (hK _ _ _ _ h)
  | 2, hd, h => exact ma_psh (v := ma_F 1073741824) (w := .float 1073741824) rfl (fun H locs als cells slots rest hk => lv_fconst2 C.1 C.2.1 hd hk) (hK _ _ _ _ h)
theorem ma_s_ldcI {i : Nat} (hq : pp = 0 ∧ (o, i, qq) ∈ ma_kI ∧ ma_r32 qq) (C : ma_Cx p s m args c G cc o nL) (hd : decode cc pc = .ok (.ldc i, 2)) (hK : ∀ ls st k μ, K ls st k μ → ma_W p l e R s m args below meth c Q G nL c0 s0 (pc + 2) ls st k μ) (hJ : ∀ pc' ls st k μ, J pc' ls st k μ → ma_W p l e R s m args below meth c Q G nL c0 s0 pc' ls st k μ) (h : ma_step O E (.ldc i) pp qq pc ls st k μ K J D) : ma_W p l e R s m args below meth c Q G nL c0 s0 pc ls st k μ := by
  obtain ⟨rfl, hq, hv⟩ := hq
  exact ma_psh (v := ma_I qq) (w := .int (Int32.ofInt qq)) ⟨_, rfl, ma_back hv⟩ (fun H locs als cells slots rest hk => lv_ldc C.1 C.2.1 C.2.2.2.1 (C.2.2.2.2.1 _ (ma_WG_in (ma_kI_in _ (List.mem_map.mpr ⟨_, hq, rfl⟩)) (ma_kI_good _ (List.mem_map.mpr ⟨_, hq, rfl⟩)))) hd hk) (hK _ _ _ _ h)
theorem ma_s_ldcF {i : Nat} (hq : pp ≠ 0 ∧ (o, i, qq) ∈ ma_kF) (C : ma_Cx p s m args c G cc o nL) (hd : decode cc pc = .ok (.ldc i, 2)) (hK : ∀ ls st k μ, K ls st k μ → ma_W p l e R s m args below meth c Q G nL c0 s0 (pc + 2) ls st k μ) (hJ : ∀ pc' ls st k μ, J pc' ls st k μ → ma_W p l e R s m args below meth c Q G nL c0 s0 pc' ls st k μ) (h : ma_step O E (.ldc i) pp qq pc ls st k μ K J D) : ma_W p l e R s m args below meth c Q G nL c0 s0 pc ls st k μ := by
  obtain ⟨hp, hq⟩ := hq
  have h : K ls (ma_F (UInt32.ofNat qq.toNat) :: st) k μ := by
    have h9 : (if pp = 0 then K ls (ma_I qq :: st) k μ else K ls (ma_F (UInt32.ofNat qq.toNat) :: st) k μ) := h
    rwa [if_neg hp] at h9
  exact ma_psh (v := ma_F (UInt32.ofNat qq.toNat)) (w := .float (UInt32.ofNat qq.toNat)) rfl (fun H locs als cells slots rest hk => lv_ldcf C.1 C.2.1 C.2.2.2.1 (C.2.2.2.2.1 _ (ma_WG_in (ma_kF_in _ (List.mem_map.mpr ⟨_, hq, rfl⟩)) (ma_kF_good _ (List.mem_map.mpr ⟨_, hq, rfl⟩)))) hd hk) (hK _ _ _ _ h)
theorem ma_s_ldcwI {i : Nat} (hq : pp = 0 ∧ (o, i, qq) ∈ ma_kI ∧ ma_r32 qq) (C : ma_Cx p s m args c G cc o nL) (hd : decode cc pc = .ok (.ldc_w i, 3)) (hK : ∀ ls st k μ, K ls st k μ → ma_W p l e R s m args below meth c Q G nL c0 s0 (pc + 3) ls st k μ) (hJ : ∀ pc' ls st k μ, J pc' ls st k μ → ma_W p l e R s m args below meth c Q G nL c0 s0 pc' ls st k μ) (h : ma_step O E (.ldc_w i) pp qq pc ls st k μ K J D) : ma_W p l e R s m args below meth c Q G nL c0 s0 pc ls st k μ := by
  obtain ⟨rfl, hq, hv⟩ := hq
  exact ma_psh (v := ma_I qq) (w := .int (Int32.ofInt qq)) ⟨_, rfl, ma_back hv⟩ (fun H locs als cells slots rest hk => lv_ldcw C.1 C.2.1 C.2.2.2.1 (C.2.2.2.2.1 _ (ma_WG_in (ma_kI_in _ (List.mem_map.mpr ⟨_, hq, rfl⟩)) (ma_kI_good _ (List.mem_map.mpr ⟨_, hq, rfl⟩)))) hd hk) (hK _ _ _ _ h)
theorem ma_s_ldcwF {i : Nat} (hq : pp ≠ 0 ∧ (o, i, qq) ∈ ma_kF) (C : ma_Cx p s m args c G cc o nL) (hd : decode cc pc = .ok (.ldc_w i, 3)) (hK : ∀ ls st k μ, K ls st k μ → ma_W p l e R s m args below meth c Q G nL c0 s0 (pc + 3) ls st k μ) (hJ : ∀ pc' ls st k μ, J pc' ls st k μ → ma_W p l e R s m args below meth c Q G nL c0 s0 pc' ls st k μ) (h : ma_step O E (.ldc_w i) pp qq pc ls st k μ K J D) : ma_W p l e R s m args below meth c Q G nL c0 s0 pc ls st k μ := by
  obtain ⟨hp, hq⟩ := hq
  have h : K ls (ma_F (UInt32.ofNat qq.toNat) :: st) k μ := by
    have h9 : (if pp = 0 then K ls (ma_I qq :: st) k μ else K ls (ma_F (UInt32.ofNat qq.toNat) :: st) k μ) := h
    rwa [if_neg hp] at h9
  exact ma_psh (v := ma_F (UInt32.ofNat qq.toNat)) (w := .float (UInt32.ofNat qq.toNat)) rfl (fun H locs als cells slots rest hk => ma_ldcwF C.1 C.2.1 C.2.2.2.1 (C.2.2.2.2.1 _ (ma_WG_in (ma_kF_in _ (List.mem_map.mpr ⟨_, hq, rfl⟩)) (ma_kF_good _ (List.mem_map.mpr ⟨_, hq, rfl⟩)))) hd hk) (hK _ _ _ _ h)
theorem ma_s_ldc2L {i : Nat} (hq : pp = 0 ∧ (o, i, qq) ∈ ma_kL ∧ -9223372036854775808 ≤ qq ∧ qq < 9223372036854775808) (C : ma_Cx p s m args c G cc o nL) (hd : decode cc pc = .ok (.ldc2_w i, 3)) (hK : ∀ ls st k μ, K ls st k μ → ma_W p l e R s m args below meth c Q G nL c0 s0 (pc + 3) ls st k μ) (hJ : ∀ pc' ls st k μ, J pc' ls st k μ → ma_W p l e R s m args below meth c Q G nL c0 s0 pc' ls st k μ) (h : ma_step O E (.ldc2_w i) pp qq pc ls st k μ K J D) : ma_W p l e R s m args below meth c Q G nL c0 s0 pc ls st k μ := by
  obtain ⟨rfl, hq, hv⟩ := hq
  exact ma_psh (v := ma_L qq) (w := .long (Int64.ofInt qq)) ⟨_, rfl, ma_backL hv⟩ (fun H locs als cells slots rest hk => lv_ldc2 C.1 C.2.1 C.2.2.2.1 (C.2.2.2.2.1 _ (ma_WG_in (ma_kL_in _ (List.mem_map.mpr ⟨_, hq, rfl⟩)) (ma_kL_good _ (List.mem_map.mpr ⟨_, hq, rfl⟩)))) hd hk) (hK _ _ _ _ h)
theorem ma_s_ldc2D {i : Nat} (hq : pp ≠ 0 ∧ (o, i, qq) ∈ ma_kD) (C : ma_Cx p s m args c G cc o nL) (hd : decode cc pc = .ok (.ldc2_w i, 3)) (hK : ∀ ls st k μ, K ls st k μ → ma_W p l e R s m args below meth c Q G nL c0 s0 (pc + 3) ls st k μ) (hJ : ∀ pc' ls st k μ, J pc' ls st k μ → ma_W p l e R s m args below meth c Q G nL c0 s0 pc' ls st k μ) (h : ma_step O E (.ldc2_w i) pp qq pc ls st k μ K J D) : ma_W p l e R s m args below meth c Q G nL c0 s0 pc ls st k μ := by
  obtain ⟨hp, hq⟩ := hq
  have h : K ls (ma_D (UInt64.ofNat qq.toNat) :: st) k μ := by
    have h9 : (if pp = 0 then K ls (ma_L qq :: st) k μ else K ls (ma_D (UInt64.ofNat qq.toNat) :: st) k μ) := h
    rwa [if_neg hp] at h9
  exact ma_psh (v := ma_D (UInt64.ofNat qq.toNat)) (w := .double (UInt64.ofNat qq.toNat)) rfl (fun H locs als cells slots rest hk => lv_ldc2d C.1 C.2.1 C.2.2.2.1 (C.2.2.2.2.1 _ (ma_WG_in (ma_kD_in _ (List.mem_map.mpr ⟨_, hq, rfl⟩)) (ma_kD_good _ (List.mem_map.mpr ⟨_, hq, rfl⟩)))) hd hk) (hK _ _ _ _ h)
theorem ma_s_isub (C : ma_Cx p s m args c G cc o nL) (hd : decode cc pc = .ok (.isub, 1)) (hK : ∀ ls st k μ, K ls st k μ → ma_W p l e R s m args below meth c Q G nL c0 s0 (pc + 1) ls st k μ) (hJ : ∀ pc' ls st k μ, J pc' ls st k μ → ma_W p l e R s m args below meth c Q G nL c0 s0 pc' ls st k μ) (h : ma_step O E (.isub) pp qq pc ls st k μ K J D) : ma_W p l e R s m args below meth c Q G nL c0 s0 pc ls st k μ := by
  obtain ⟨y, st, rfl, h⟩ := ma_pI_e h
  obtain ⟨x, st, rfl, h⟩ := ma_pI_e h
  obtain ⟨hr, h⟩ := h
  refine ma_bI (f := fun x y => ma_wI (x - y)) ma_f_sub (fun a b _ _ H locs als cells slots rest hk => lv_isub C.1 C.2.1 hd hk) ?_
  show ma_W p l e R s m args below meth c Q G nL c0 s0 (pc + 1) ls (ma_I (ma_wI (x - y)) :: st) k μ
  rw [ma_wI_id hr]
  exact hK _ _ _ _ h
theorem ma_s_iadd (C : ma_Cx p s m args c G cc o nL) (hd : decode cc pc = .ok (.iadd, 1)) (hK : ∀ ls st k μ, K ls st k μ → ma_W p l e R s m args below meth c Q G nL c0 s0 (pc + 1) ls st k μ) (hJ : ∀ pc' ls st k μ, J pc' ls st k μ → ma_W p l e R s m args below meth c Q G nL c0 s0 pc' ls st k μ) (h : ma_step O E (.iadd) pp qq pc ls st k μ K J D) : ma_W p l e R s m args below meth c Q G nL c0 s0 pc ls st k μ := by
  obtain ⟨y, st, rfl, h⟩ := ma_pI_e h
  obtain ⟨x, st, rfl, h⟩ := ma_pI_e h
  have h : (if pp = 1 then K ls (ma_I (ma_wI (x + y)) :: st) k μ else ma_r32 (x + y) ∧ K ls (ma_I (x + y) :: st) k μ) := h
  refine ma_bI (f := fun x y => ma_wI (x + y)) ma_f_add (fun a b _ _ H locs als cells slots rest hk => lv_iadd C.1 C.2.1 hd hk) ?_
  show ma_W p l e R s m args below meth c Q G nL c0 s0 (pc + 1) ls (ma_I (ma_wI (x + y)) :: st) k μ
  by_cases hp : pp = 1
  · rw [if_pos hp] at h
    exact hK _ _ _ _ h
  · rw [if_neg hp] at h
    rw [ma_wI_id h.1]
    exact hK _ _ _ _ h.2
theorem ma_s_imul (C : ma_Cx p s m args c G cc o nL) (hd : decode cc pc = .ok (.imul, 1)) (hK : ∀ ls st k μ, K ls st k μ → ma_W p l e R s m args below meth c Q G nL c0 s0 (pc + 1) ls st k μ) (hJ : ∀ pc' ls st k μ, J pc' ls st k μ → ma_W p l e R s m args below meth c Q G nL c0 s0 pc' ls st k μ) (h : ma_step O E (.imul) pp qq pc ls st k μ K J D) : ma_W p l e R s m args below meth c Q G nL c0 s0 pc ls st k μ := by
  obtain ⟨y, st, rfl, h⟩ := ma_pI_e h
  obtain ⟨x, st, rfl, h⟩ := ma_pI_e h
  have h : (if pp = 1 then K ls (ma_I (ma_wI (x * y)) :: st) k μ else ma_r32 (x * y) ∧ K ls (ma_I (x * y) :: st) k μ) := h
  refine ma_bI (f := fun x y => ma_wI (x * y)) ma_f_mul (fun a b _ _ H locs als cells slots rest hk => lv_imul C.1 C.2.1 hd hk) ?_
  show ma_W p l e R s m args below meth c Q G nL c0 s0 (pc + 1) ls (ma_I (ma_wI (x * y)) :: st) k μ
  by_cases hp : pp = 1
  · rw [if_pos hp] at h
    exact hK _ _ _ _ h
  · rw [if_neg hp] at h
    rw [ma_wI_id h.1]
    exact hK _ _ _ _ h.2
theorem ma_s_idiv (C : ma_Cx p s m args c G cc o nL) (hd : decode cc pc = .ok (.idiv, 1)) (hK : ∀ ls st k μ, K ls st k μ → ma_W p l e R s m args below meth c Q G nL c0 s0 (pc + 1) ls st k μ) (hJ : ∀ pc' ls st k μ, J pc' ls st k μ → ma_W p l e R s m args below meth c Q G nL c0 s0 pc' ls st k μ) (h : ma_step O E (.idiv) pp qq pc ls st k μ K J D) : ma_W p l e R s m args below meth c Q G nL c0 s0 pc ls st k μ := by
  obtain ⟨y, st, rfl, h⟩ := ma_pI_e h
  obtain ⟨x, st, rfl, h⟩ := ma_pI_e h
  obtain ⟨hy, hr, h⟩ := h
  refine ma_bI (f := fun x y => ma_wI (x.tdiv y)) ma_f_div (fun a b _ hb H locs als cells slots rest hk => lv_idiv C.1 C.2.1 hd (ma_ne0 hb hy) hk) ?_
  show ma_W p l e R s m args below meth c Q G nL c0 s0 (pc + 1) ls (ma_I (ma_wI (x.tdiv y)) :: st) k μ
  rw [ma_wI_id hr]
  exact hK _ _ _ _ h
theorem ma_s_irem (C : ma_Cx p s m args c G cc o nL) (hd : decode cc pc = .ok (.irem, 1)) (hK : ∀ ls st k μ, K ls st k μ → ma_W p l e R s m args below meth c Q G nL c0 s0 (pc + 1) ls st k μ) (hJ : ∀ pc' ls st k μ, J pc' ls st k μ → ma_W p l e R s m args below meth c Q G nL c0 s0 pc' ls st k μ) (h : ma_step O E (.irem) pp qq pc ls st k μ K J D) : ma_W p l e R s m args below meth c Q G nL c0 s0 pc ls st k μ := by
  obtain ⟨y, st, rfl, h⟩ := ma_pI_e h
  obtain ⟨x, st, rfl, h⟩ := ma_pI_e h
  obtain ⟨hy, h⟩ := h
  exact ma_bI (f := Int.tmod) ma_f_remK (fun a b _ hb H locs als cells slots rest hk => lv_irem C.1 C.2.1 hd (ma_ne0 hb hy) hk) (hK _ _ _ _ h)
theorem ma_s_iand (C : ma_Cx p s m args c G cc o nL) (hd : decode cc pc = .ok (.iand, 1)) (hK : ∀ ls st k μ, K ls st k μ → ma_W p l e R s m args below meth c Q G nL c0 s0 (pc + 1) ls st k μ) (hJ : ∀ pc' ls st k μ, J pc' ls st k μ → ma_W p l e R s m args below meth c Q G nL c0 s0 pc' ls st k μ) (h : ma_step O E (.iand) pp qq pc ls st k μ K J D) : ma_W p l e R s m args below meth c Q G nL c0 s0 pc ls st k μ := by
  obtain ⟨y, st, rfl, h⟩ := ma_pI_e h
  obtain ⟨x, st, rfl, h⟩ := ma_pI_e h
  exact ma_bI (f := ma_and) ma_f_and (fun a b _ _ H locs als cells slots rest hk => lv_iand C.1 C.2.1 hd hk) (hK _ _ _ _ h)
theorem ma_s_ior (C : ma_Cx p s m args c G cc o nL) (hd : decode cc pc = .ok (.ior, 1)) (hK : ∀ ls st k μ, K ls st k μ → ma_W p l e R s m args below meth c Q G nL c0 s0 (pc + 1) ls st k μ) (hJ : ∀ pc' ls st k μ, J pc' ls st k μ → ma_W p l e R s m args below meth c Q G nL c0 s0 pc' ls st k μ) (h : ma_step O E (.ior) pp qq pc ls st k μ K J D) : ma_W p l e R s m args below meth c Q G nL c0 s0 pc ls st k μ := by
  obtain ⟨y, st, rfl, h⟩ := ma_pI_e h
  obtain ⟨x, st, rfl, h⟩ := ma_pI_e h
  exact ma_bI (f := ma_or) ma_f_or (fun a b _ _ H locs als cells slots rest hk => lv_ior C.1 C.2.1 hd hk) (hK _ _ _ _ h)
theorem ma_s_ixor (C : ma_Cx p s m args c G cc o nL) (hd : decode cc pc = .ok (.ixor, 1)) (hK : ∀ ls st k μ, K ls st k μ → ma_W p l e R s m args below meth c Q G nL c0 s0 (pc + 1) ls st k μ) (hJ : ∀ pc' ls st k μ, J pc' ls st k μ → ma_W p l e R s m args below meth c Q G nL c0 s0 pc' ls st k μ) (h : ma_step O E (.ixor) pp qq pc ls st k μ K J D) : ma_W p l e R s m args below meth c Q G nL c0 s0 pc ls st k μ := by
  obtain ⟨y, st, rfl, h⟩ := ma_pI_e h
  obtain ⟨x, st, rfl, h⟩ := ma_pI_e h
  exact ma_bI (f := ma_xor) ma_f_xor (fun a b _ _ H locs als cells slots rest hk => lv_ixor C.1 C.2.1 hd hk) (hK _ _ _ _ h)
theorem ma_s_ishl (C : ma_Cx p s m args c G cc o nL) (hd : decode cc pc = .ok (.ishl, 1)) (hK : ∀ ls st k μ, K ls st k μ → ma_W p l e R s m args below meth c Q G nL c0 s0 (pc + 1) ls st k μ) (hJ : ∀ pc' ls st k μ, J pc' ls st k μ → ma_W p l e R s m args below meth c Q G nL c0 s0 pc' ls st k μ) (h : ma_step O E (.ishl) pp qq pc ls st k μ K J D) : ma_W p l e R s m args below meth c Q G nL c0 s0 pc ls st k μ := by
  obtain ⟨y, st, rfl, h⟩ := ma_pI_e h
  obtain ⟨x, st, rfl, h⟩ := ma_pI_e h
  exact ma_bI (f := ma_shl) ma_f_shl (fun a b _ _ H locs als cells slots rest hk => lv_ishl C.1 C.2.1 hd hk) (hK _ _ _ _ h)
theorem ma_s_ishr (C : ma_Cx p s m args c G cc o nL) (hd : decode cc pc = .ok (.ishr, 1)) (hK : ∀ ls st k μ, K ls st k μ → ma_W p l e R s m args below meth c Q G nL c0 s0 (pc + 1) ls st k μ) (hJ : ∀ pc' ls st k μ, J pc' ls st k μ → ma_W p l e R s m args below meth c Q G nL c0 s0 pc' ls st k μ) (h : ma_step O E (.ishr) pp qq pc ls st k μ K J D) : ma_W p l e R s m args below meth c Q G nL c0 s0 pc ls st k μ := by
  obtain ⟨y, st, rfl, h⟩ := ma_pI_e h
  obtain ⟨x, st, rfl, h⟩ := ma_pI_e h
  exact ma_bI (f := ma_shr) ma_f_shr (fun a b _ _ H locs als cells slots rest hk => lv_ishr C.1 C.2.1 hd hk) (hK _ _ _ _ h)
theorem ma_s_iushr (C : ma_Cx p s m args c G cc o nL) (hd : decode cc pc = .ok (.iushr, 1)) (hK : ∀ ls st k μ, K ls st k μ → ma_W p l e R s m args below meth c Q G nL c0 s0 (pc + 1) ls st k μ) (hJ : ∀ pc' ls st k μ, J pc' ls st k μ → ma_W p l e R s m args below meth c Q G nL c0 s0 pc' ls st k μ) (h : ma_step O E (.iushr) pp qq pc ls st k μ K J D) : ma_W p l e R s m args below meth c Q G nL c0 s0 pc ls st k μ := by
  obtain ⟨y, st, rfl, h⟩ := ma_pI_e h
  obtain ⟨x, st, rfl, h⟩ := ma_pI_e h
  exact ma_bI (f := ma_ushr) ma_f_ushr (fun a b _ _ H locs als cells slots rest hk => lv_iushr C.1 C.2.1 hd rfl hk) (hK _ _ _ _ h)
theorem ma_s_ladd (C : ma_Cx p s m args c G cc o nL) (hd : decode cc pc = .ok (.ladd, 1)) (hK : ∀ ls st k μ, K ls st k μ → ma_W p l e R s m args below meth c Q G nL c0 s0 (pc + 1) ls st k μ) (hJ : ∀ pc' ls st k μ, J pc' ls st k μ → ma_W p l e R s m args below meth c Q G nL c0 s0 pc' ls st k μ) (h : ma_step O E (.ladd) pp qq pc ls st k μ K J D) : ma_W p l e R s m args below meth c Q G nL c0 s0 pc ls st k μ := by
  obtain ⟨y, st, rfl, h⟩ := ma_pL_e h
  obtain ⟨x, st, rfl, h⟩ := ma_pL_e h
  exact ma_bL (f := fun x y => ma_wL (x + y)) ma_f_ladd (fun a b _ _ H locs als cells slots rest hk => lv_ladd C.1 C.2.1 hd hk) (hK _ _ _ _ h)
theorem ma_s_lsub (C : ma_Cx p s m args c G cc o nL) (hd : decode cc pc = .ok (.lsub, 1)) (hK : ∀ ls st k μ, K ls st k μ → ma_W p l e R s m args below meth c Q G nL c0 s0 (pc + 1) ls st k μ) (hJ : ∀ pc' ls st k μ, J pc' ls st k μ → ma_W p l e R s m args below meth c Q G nL c0 s0 pc' ls st k μ) (h : ma_step O E (.lsub) pp qq pc ls st k μ K J D) : ma_W p l e R s m args below meth c Q G nL c0 s0 pc ls st k μ := by
  obtain ⟨y, st, rfl, h⟩ := ma_pL_e h
  obtain ⟨x, st, rfl, h⟩ := ma_pL_e h
  exact ma_bL (f := fun x y => ma_wL (x - y)) ma_f_lsub (fun a b _ _ H locs als cells slots rest hk => lv_lsub C.1 C.2.1 hd hk) (hK _ _ _ _ h)
theorem ma_s_lmul (C : ma_Cx p s m args c G cc o nL) (hd : decode cc pc = .ok (.lmul, 1)) (hK : ∀ ls st k μ, K ls st k μ → ma_W p l e R s m args below meth c Q G nL c0 s0 (pc + 1) ls st k μ) (hJ : ∀ pc' ls st k μ, J pc' ls st k μ → ma_W p l e R s m args below meth c Q G nL c0 s0 pc' ls st k μ) (h : ma_step O E (.lmul) pp qq pc ls st k μ K J D) : ma_W p l e R s m args below meth c Q G nL c0 s0 pc ls st k μ := by
  obtain ⟨y, st, rfl, h⟩ := ma_pL_e h
  obtain ⟨x, st, rfl, h⟩ := ma_pL_e h
  exact ma_bL (f := fun x y => ma_wL (x * y)) ma_f_lmul (fun a b _ _ H locs als cells slots rest hk => lv_lmul C.1 C.2.1 hd hk) (hK _ _ _ _ h)
theorem ma_s_ldiv (C : ma_Cx p s m args c G cc o nL) (hd : decode cc pc = .ok (.ldiv, 1)) (hK : ∀ ls st k μ, K ls st k μ → ma_W p l e R s m args below meth c Q G nL c0 s0 (pc + 1) ls st k μ) (hJ : ∀ pc' ls st k μ, J pc' ls st k μ → ma_W p l e R s m args below meth c Q G nL c0 s0 pc' ls st k μ) (h : ma_step O E (.ldiv) pp qq pc ls st k μ K J D) : ma_W p l e R s m args below meth c Q G nL c0 s0 pc ls st k μ := by
  obtain ⟨y, st, rfl, h⟩ := ma_pL_e h
  obtain ⟨x, st, rfl, h⟩ := ma_pL_e h
  obtain ⟨hy, h⟩ := h
  exact ma_bL (f := fun x y => ma_wL (x.tdiv y)) ma_f_ldiv (fun a b _ hb H locs als cells slots rest hk => lv_ldiv C.1 C.2.1 hd (ma_ne0L hb hy) hk) (hK _ _ _ _ h)
theorem ma_s_lrem (C : ma_Cx p s m args c G cc o nL) (hd : decode cc pc = .ok (.lrem, 1)) (hK : ∀ ls st k μ, K ls st k μ → ma_W p l e R s m args below meth c Q G nL c0 s0 (pc + 1) ls st k μ) (hJ : ∀ pc' ls st k μ, J pc' ls st k μ → ma_W p l e R s m args below meth c Q G nL c0 s0 pc' ls st k μ) (h : ma_step O E (.lrem) pp qq pc ls st k μ K J D) : ma_W p l e R s m args below meth c Q G nL c0 s0 pc ls st k μ := by
  obtain ⟨y, st, rfl, h⟩ := ma_pL_e h
  obtain ⟨x, st, rfl, h⟩ := ma_pL_e h
  obtain ⟨hy, h⟩ := h
  exact ma_bL (f := Int.tmod) ma_f_lremK (fun a b _ hb H locs als cells slots rest hk => lv_lrem C.1 C.2.1 hd (ma_ne0L hb hy) hk) (hK _ _ _ _ h)
theorem ma_s_land (C : ma_Cx p s m args c G cc o nL) (hd : decode cc pc = .ok (.land, 1)) (hK : ∀ ls st k μ, K ls st k μ → ma_W p l e R s m args below meth c Q G nL c0 s0 (pc + 1) ls st k μ) (hJ : ∀ pc' ls st k μ, J pc' ls st k μ → ma_W p l e R s m args below meth c Q G nL c0 s0 pc' ls st k μ) (h : ma_step O E (.land) pp qq pc ls st k μ K J D) : ma_W p l e R s m args below meth c Q G nL c0 s0 pc ls st k μ := by
  obtain ⟨y, st, rfl, h⟩ := ma_pL_e h
  obtain ⟨x, st, rfl, h⟩ := ma_pL_e h
  exact ma_bL (f := ma_land) ma_f_land (fun a b _ _ H locs als cells slots rest hk => lv_land C.1 C.2.1 hd hk) (hK _ _ _ _ h)
theorem ma_s_lor (C : ma_Cx p s m args c G cc o nL) (hd : decode cc pc = .ok (.lor, 1)) (hK : ∀ ls st k μ, K ls st k μ → ma_W p l e R s m args below meth c Q G nL c0 s0 (pc + 1) ls st k μ) (hJ : ∀ pc' ls st k μ, J pc' ls st k μ → ma_W p l e R s m args below meth c Q G nL c0 s0 pc' ls st k μ) (h : ma_step O E (.lor) pp qq pc ls st k μ K J D) : ma_W p l e R s m args below meth c Q G nL c0 s0 pc ls st k μ := by
  obtain ⟨y, st, rfl, h⟩ := ma_pL_e h
  obtain ⟨x, st, rfl, h⟩ := ma_pL_e h
  exact ma_bL (f := ma_lor) ma_f_lor (fun a b _ _ H locs als cells slots rest hk => lv_lor C.1 C.2.1 hd hk) (hK _ _ _ _ h)
theorem ma_s_lshl (C : ma_Cx p s m args c G cc o nL) (hd : decode cc pc = .ok (.lshl, 1)) (hK : ∀ ls st k μ, K ls st k μ → ma_W p l e R s m args below meth c Q G nL c0 s0 (pc + 1) ls st k μ) (hJ : ∀ pc' ls st k μ, J pc' ls st k μ → ma_W p l e R s m args below meth c Q G nL c0 s0 pc' ls st k μ) (h : ma_step O E (.lshl) pp qq pc ls st k μ K J D) : ma_W p l e R s m args below meth c Q G nL c0 s0 pc ls st k μ := by
  obtain ⟨y, st, rfl, h⟩ := ma_pI_e h
  obtain ⟨x, st, rfl, h⟩ := ma_pL_e h
  exact ma_bS (f := ma_lshl) ma_f_lshl (fun a b H locs als cells slots rest hk => lv_lshl C.1 C.2.1 hd rfl hk) (hK _ _ _ _ h)
theorem ma_s_lshr (C : ma_Cx p s m args c G cc o nL) (hd : decode cc pc = .ok (.lshr, 1)) (hK : ∀ ls st k μ, K ls st k μ → ma_W p l e R s m args below meth c Q G nL c0 s0 (pc + 1) ls st k μ) (hJ : ∀ pc' ls st k μ, J pc' ls st k μ → ma_W p l e R s m args below meth c Q G nL c0 s0 pc' ls st k μ) (h : ma_step O E (.lshr) pp qq pc ls st k μ K J D) : ma_W p l e R s m args below meth c Q G nL c0 s0 pc ls st k μ := by
  obtain ⟨y, st, rfl, h⟩ := ma_pI_e h
  obtain ⟨x, st, rfl, h⟩ := ma_pL_e h
  exact ma_bS (f := ma_lshr) ma_f_lshr (fun a b H locs als cells slots rest hk => lv_lshr C.1 C.2.1 hd rfl hk) (hK _ _ _ _ h)
theorem ma_s_lushr (C : ma_Cx p s m args c G cc o nL) (hd : decode cc pc = .ok (.lushr, 1)) (hK : ∀ ls st k μ, K ls st k μ → ma_W p l e R s m args below meth c Q G nL c0 s0 (pc + 1) ls st k μ) (hJ : ∀ pc' ls st k μ, J pc' ls st k μ → ma_W p l e R s m args below meth c Q G nL c0 s0 pc' ls st k μ) (h : ma_step O E (.lushr) pp qq pc ls st k μ K J D) : ma_W p l e R s m args below meth c Q G nL c0 s0 pc ls st k μ := by
  obtain ⟨y, st, rfl, h⟩ := ma_pI_e h
  obtain ⟨x, st, rfl, h⟩ := ma_pL_e h
  exact ma_bS (f := ma_lushr) ma_f_lushr (fun a b H locs als cells slots rest hk => lv_lushr C.1 C.2.1 hd rfl hk) (hK _ _ _ _ h)
theorem ma_s_i2l (C : ma_Cx p s m args c G cc o nL) (hd : decode cc pc = .ok (.i2l, 1)) (hK : ∀ ls st k μ, K ls st k μ → ma_W p l e R s m args below meth c Q G nL c0 s0 (pc + 1) ls st k μ) (hJ : ∀ pc' ls st k μ, J pc' ls st k μ → ma_W p l e R s m args below meth c Q G nL c0 s0 pc' ls st k μ) (h : ma_step O E (.i2l) pp qq pc ls st k μ K J D) : ma_W p l e R s m args below meth c Q G nL c0 s0 pc ls st k μ := by
  obtain ⟨x, st, rfl, h⟩ := ma_pI_e h
  refine ma_pure (as := [ma_I x]) (bs := [ma_L x]) (fun H locs als ws hH hS hL hR => ?_) (hK _ _ _ _ h)
  obtain ⟨w, ws, rfl, hw, hR⟩ := ma_RS_cons hR
  cases ma_RS_nil hR
  obtain ⟨a, rfl, rfl⟩ := hw
  exact ⟨[.long a.toInt64], ⟨⟨_, rfl, by simp⟩, trivial⟩, fun cells slots rest hk => lv_i2l C.1 C.2.1 hd rfl hk⟩
theorem ma_s_l2i (C : ma_Cx p s m args c G cc o nL) (hd : decode cc pc = .ok (.l2i, 1)) (hK : ∀ ls st k μ, K ls st k μ → ma_W p l e R s m args below meth c Q G nL c0 s0 (pc + 1) ls st k μ) (hJ : ∀ pc' ls st k μ, J pc' ls st k μ → ma_W p l e R s m args below meth c Q G nL c0 s0 pc' ls st k μ) (h : ma_step O E (.l2i) pp qq pc ls st k μ K J D) : ma_W p l e R s m args below meth c Q G nL c0 s0 pc ls st k μ := by
  obtain ⟨x, st, rfl, h⟩ := ma_pL_e h
  refine ma_pure (as := [ma_L x]) (bs := [ma_I (ma_wI x)]) (fun H locs als ws hH hS hL hR => ?_) (hK _ _ _ _ h)
  obtain ⟨w, ws, rfl, hw, hR⟩ := ma_RS_cons hR
  cases ma_RS_nil hR
  obtain ⟨a, rfl, rfl⟩ := hw
  exact ⟨[.int a.toInt32], ⟨⟨_, rfl, by simp [ma_wI]⟩, trivial⟩, fun cells slots rest hk => lv_l2i C.1 C.2.1 hd rfl hk⟩
theorem ma_s_i2c (C : ma_Cx p s m args c G cc o nL) (hd : decode cc pc = .ok (.i2c, 1)) (hK : ∀ ls st k μ, K ls st k μ → ma_W p l e R s m args below meth c Q G nL c0 s0 (pc + 1) ls st k μ) (hJ : ∀ pc' ls st k μ, J pc' ls st k μ → ma_W p l e R s m args below meth c Q G nL c0 s0 pc' ls st k μ) (h : ma_step O E (.i2c) pp qq pc ls st k μ K J D) : ma_W p l e R s m args below meth c Q G nL c0 s0 pc ls st k μ := by
  obtain ⟨x, st, rfl, h⟩ := ma_pI_e h
  refine ma_pure (as := [ma_I x]) (bs := [ma_I (x % 65536)]) (fun H locs als ws hH hS hL hR => ?_) (hK _ _ _ _ h)
  obtain ⟨w, ws, rfl, hw, hR⟩ := ma_RS_cons hR
  cases ma_RS_nil hR
  obtain ⟨a, rfl, rfl⟩ := hw
  exact ⟨[.int (a.toUInt32 % 65536).toInt32], ⟨⟨_, rfl, ma_f_i2c a⟩, trivial⟩, fun cells slots rest hk => lv_i2c C.1 C.2.1 hd rfl hk⟩
theorem ma_s_i2d (C : ma_Cx p s m args c G cc o nL) (hd : decode cc pc = .ok (.i2d, 1)) (hK : ∀ ls st k μ, K ls st k μ → ma_W p l e R s m args below meth c Q G nL c0 s0 (pc + 1) ls st k μ) (hJ : ∀ pc' ls st k μ, J pc' ls st k μ → ma_W p l e R s m args below meth c Q G nL c0 s0 pc' ls st k μ) (h : ma_step O E (.i2d) pp qq pc ls st k μ K J D) : ma_W p l e R s m args below meth c Q G nL c0 s0 pc ls st k μ := by
  obtain ⟨x, st, rfl, h⟩ := ma_pI_e h
  refine ma_pure (as := [ma_I x]) (bs := [ma_D (FP.i2d (Int32.ofInt x))]) (fun H locs als ws hH hS hL hR => ?_) (hK _ _ _ _ h)
  obtain ⟨w, ws, rfl, hw, hR⟩ := ma_RS_cons hR
  cases ma_RS_nil hR
  obtain ⟨a, rfl, rfl⟩ := hw
  exact ⟨[.double (FP.i2d a)], ⟨(by show Value.double _ = Value.double _; rw [ma_oI]), trivial⟩, fun cells slots rest hk => lv_i2d C.1 C.2.1 hd hk⟩
theorem ma_s_i2f (C : ma_Cx p s m args c G cc o nL) (hd : decode cc pc = .ok (.i2f, 1)) (hK : ∀ ls st k μ, K ls st k μ → ma_W p l e R s m args below meth c Q G nL c0 s0 (pc + 1) ls st k μ) (hJ : ∀ pc' ls st k μ, J pc' ls st k μ → ma_W p l e R s m args below meth c Q G nL c0 s0 pc' ls st k μ) (h : ma_step O E (.i2f) pp qq pc ls st k μ K J D) : ma_W p l e R s m args below meth c Q G nL c0 s0 pc ls st k μ := by
  obtain ⟨x, st, rfl, h⟩ := ma_pI_e h
  refine ma_pure (as := [ma_I x]) (bs := [ma_F (FP.i2f (Int32.ofInt x))]) (fun H locs als ws hH hS hL hR => ?_) (hK _ _ _ _ h)
  obtain ⟨w, ws, rfl, hw, hR⟩ := ma_RS_cons hR
  cases ma_RS_nil hR
  obtain ⟨a, rfl, rfl⟩ := hw
  exact ⟨[.float (FP.i2f a)], ⟨(by show Value.float _ = Value.float _; rw [ma_oI]), trivial⟩, fun cells slots rest hk => lv_i2f C.1 C.2.1 hd hk⟩
theorem ma_s_f2d (C : ma_Cx p s m args c G cc o nL) (hd : decode cc pc = .ok (.f2d, 1)) (hK : ∀ ls st k μ, K ls st k μ → ma_W p l e R s m args below meth c Q G nL c0 s0 (pc + 1) ls st k μ) (hJ : ∀ pc' ls st k μ, J pc' ls st k μ → ma_W p l e R s m args below meth c Q G nL c0 s0 pc' ls st k μ) (h : ma_step O E (.f2d) pp qq pc ls st k μ K J D) : ma_W p l e R s m args below meth c Q G nL c0 s0 pc ls st k μ := by
  obtain ⟨x, st, rfl, hn, h⟩ := ma_pF_e h
  refine ma_pure (as := [ma_F x]) (bs := [ma_D (FP.f2d x)]) (fun H locs als ws hH hS hL hR => ?_) (hK _ _ _ _ h)
  obtain ⟨w, ws, rfl, hw, hR⟩ := ma_RS_cons hR
  cases ma_RS_nil hR
  cases hw
  exact ⟨[.double (FP.f2d x)], ⟨rfl, trivial⟩, fun cells slots rest hk => lv_f2d C.1 C.2.1 hd hn hk⟩
theorem ma_s_ddiv (C : ma_Cx p s m args c G cc o nL) (hd : decode cc pc = .ok (.ddiv, 1)) (hK : ∀ ls st k μ, K ls st k μ → ma_W p l e R s m args below meth c Q G nL c0 s0 (pc + 1) ls st k μ) (hJ : ∀ pc' ls st k μ, J pc' ls st k μ → ma_W p l e R s m args below meth c Q G nL c0 s0 pc' ls st k μ) (h : ma_step O E (.ddiv) pp qq pc ls st k μ K J D) : ma_W p l e R s m args below meth c Q G nL c0 s0 pc ls st k μ := by
  obtain ⟨y, st, rfl, h⟩ := ma_pD_e h
  obtain ⟨x, st, rfl, hn, h⟩ := ma_pD_e h
  refine ma_pure (as := [ma_D y, ma_D x]) (bs := [ma_D (FP.ddiv x y)]) (fun H locs als ws hH hS hL hR => ?_) (hK _ _ _ _ h)
  obtain ⟨w, ws, rfl, hw, hR⟩ := ma_RS_cons hR
  obtain ⟨w2, ws, rfl, hw2, hR⟩ := ma_RS_cons hR
  cases ma_RS_nil hR
  cases hw
  cases hw2
  exact ⟨[.double (FP.ddiv x y)], ⟨rfl, trivial⟩, fun cells slots rest hk => lv_ddiv C.1 C.2.1 hd hn hk⟩
theorem ma_s_fdiv (C : ma_Cx p s m args c G cc o nL) (hd : decode cc pc = .ok (.fdiv, 1)) (hK : ∀ ls st k μ, K ls st k μ → ma_W p l e R s m args below meth c Q G nL c0 s0 (pc + 1) ls st k μ) (hJ : ∀ pc' ls st k μ, J pc' ls st k μ → ma_W p l e R s m args below meth c Q G nL c0 s0 pc' ls st k μ) (h : ma_step O E (.fdiv) pp qq pc ls st k μ K J D) : ma_W p l e R s m args below meth c Q G nL c0 s0 pc ls st k μ := by
  obtain ⟨y, st, rfl, h⟩ := ma_pF_e h
  obtain ⟨x, st, rfl, hn, h⟩ := ma_pF_e h
  refine ma_pure (as := [ma_F y, ma_F x]) (bs := [ma_F (FP.fdiv x y)]) (fun H locs als ws hH hS hL hR => ?_) (hK _ _ _ _ h)
  obtain ⟨w, ws, rfl, hw, hR⟩ := ma_RS_cons hR
  obtain ⟨w2, ws, rfl, hw2, hR⟩ := ma_RS_cons hR
  cases ma_RS_nil hR
  cases hw
  cases hw2
  exact ⟨[.float (FP.fdiv x y)], ⟨rfl, trivial⟩, fun cells slots rest hk => lv_fdiv C.1 C.2.1 hd hn hk⟩
theorem ma_s_dcmp {op : CmpOp} (C : ma_Cx p s m args c G cc o nL) (hd : decode cc pc = .ok (.dcmp op, 1)) (hK : ∀ ls st k μ, K ls st k μ → ma_W p l e R s m args below meth c Q G nL c0 s0 (pc + 1) ls st k μ) (hJ : ∀ pc' ls st k μ, J pc' ls st k μ → ma_W p l e R s m args below meth c Q G nL c0 s0 pc' ls st k μ) (h : ma_step O E (.dcmp op) pp qq pc ls st k μ K J D) : ma_W p l e R s m args below meth c Q G nL c0 s0 pc ls st k μ := by
  obtain ⟨y, st, rfl, h⟩ := ma_pD_e h
  obtain ⟨x, st, rfl, h⟩ := ma_pD_e h
  refine ma_pure (as := [ma_D y, ma_D x]) (bs := [ma_I (Op.cmpValue (FP.dcmp x y) op).toInt]) (fun H locs als ws hH hS hL hR => ?_) (hK _ _ _ _ h)
  obtain ⟨w, ws, rfl, hw, hR⟩ := ma_RS_cons hR
  obtain ⟨w2, ws, rfl, hw2, hR⟩ := ma_RS_cons hR
  cases ma_RS_nil hR
  cases hw
  cases hw2
  exact ⟨[.int (Op.cmpValue (FP.dcmp x y) op)], ⟨⟨_, rfl, rfl⟩, trivial⟩, fun cells slots rest hk => lv_dcmp C.1 C.2.1 hd hk⟩
theorem ma_s_fcmp {op : CmpOp} (C : ma_Cx p s m args c G cc o nL) (hd : decode cc pc = .ok (.fcmp op, 1)) (hK : ∀ ls st k μ, K ls st k μ → ma_W p l e R s m args below meth c Q G nL c0 s0 (pc + 1) ls st k μ) (hJ : ∀ pc' ls st k μ, J pc' ls st k μ → ma_W p l e R s m args below meth c Q G nL c0 s0 pc' ls st k μ) (h : ma_step O E (.fcmp op) pp qq pc ls st k μ K J D) : ma_W p l e R s m args below meth c Q G nL c0 s0 pc ls st k μ := by
  obtain ⟨y, st, rfl, h⟩ := ma_pF_e h
  obtain ⟨x, st, rfl, h⟩ := ma_pF_e h
  refine ma_pure (as := [ma_F y, ma_F x]) (bs := [ma_I (Op.cmpValue (FP.fcmp x y) op).toInt]) (fun H locs als ws hH hS hL hR => ?_) (hK _ _ _ _ h)
  obtain ⟨w, ws, rfl, hw, hR⟩ := ma_RS_cons hR
  obtain ⟨w2, ws, rfl, hw2, hR⟩ := ma_RS_cons hR
  cases ma_RS_nil hR
  cases hw
  cases hw2
  exact ⟨[.int (Op.cmpValue (FP.fcmp x y) op)], ⟨⟨_, rfl, rfl⟩, trivial⟩, fun cells slots rest hk => lv_fcmp C.1 C.2.1 hd hk⟩
theorem ma_s_lcmp (C : ma_Cx p s m args c G cc o nL) (hd : decode cc pc = .ok (.lcmp, 1)) (hK : ∀ ls st k μ, K ls st k μ → ma_W p l e R s m args below meth c Q G nL c0 s0 (pc + 1) ls st k μ) (hJ : ∀ pc' ls st k μ, J pc' ls st k μ → ma_W p l e R s m args below meth c Q G nL c0 s0 pc' ls st k μ) (h : ma_step O E (.lcmp) pp qq pc ls st k μ K J D) : ma_W p l e R s m args below meth c Q G nL c0 s0 pc ls st k μ := by
  obtain ⟨y, st, rfl, h⟩ := ma_pL_e h
  obtain ⟨x, st, rfl, h⟩ := ma_pL_e h
  refine ma_pure (as := [ma_L y, ma_L x]) (bs := [ma_I (if y < x then 1 else if x = y then 0 else -1)]) (fun H locs als ws hH hS hL hR => ?_) (hK _ _ _ _ h)
  obtain ⟨w, ws, rfl, hw, hR⟩ := ma_RS_cons hR
  obtain ⟨w2, ws, rfl, hw2, hR⟩ := ma_RS_cons hR
  cases ma_RS_nil hR
  obtain ⟨a, rfl, rfl⟩ := hw
  obtain ⟨b, rfl, rfl⟩ := hw2
  exact ⟨[.int (lg_cmp b a)], ⟨⟨_, rfl, ma_f_cmp b a⟩, trivial⟩, fun cells slots rest hk => W.lcmp C.1 C.2.1 hd hk⟩
theorem ma_s_dup (C : ma_Cx p s m args c G cc o nL) (hd : decode cc pc = .ok (.dup, 1)) (hK : ∀ ls st k μ, K ls st k μ → ma_W p l e R s m args below meth c Q G nL c0 s0 (pc + 1) ls st k μ) (hJ : ∀ pc' ls st k μ, J pc' ls st k μ → ma_W p l e R s m args below meth c Q G nL c0 s0 pc' ls st k μ) (h : ma_step O E (.dup) pp qq pc ls st k μ K J D) : ma_W p l e R s m args below meth c Q G nL c0 s0 pc ls st k μ := by
  obtain ⟨v, st, rfl, h1, h2, h⟩ := ma_pA_e h
  refine ma_pure (as := [v]) (bs := [v, v]) (fun H locs als ws hH hS hL hR => ?_) (hK _ _ _ _ h)
  obtain ⟨w, ws, rfl, hw, hR⟩ := ma_RS_cons hR
  cases ma_RS_nil hR
  exact ⟨[w, w], ⟨hw, hw, trivial⟩, fun cells slots rest hk => lv_dup C.1 C.2.1 hd (ma_Rv_c1 hw h2 h1) hk⟩
theorem ma_s_pop (C : ma_Cx p s m args c G cc o nL) (hd : decode cc pc = .ok (.pop, 1)) (hK : ∀ ls st k μ, K ls st k μ → ma_W p l e R s m args below meth c Q G nL c0 s0 (pc + 1) ls st k μ) (hJ : ∀ pc' ls st k μ, J pc' ls st k μ → ma_W p l e R s m args below meth c Q G nL c0 s0 pc' ls st k μ) (h : ma_step O E (.pop) pp qq pc ls st k μ K J D) : ma_W p l e R s m args below meth c Q G nL c0 s0 pc ls st k μ := by
  obtain ⟨v, st, rfl, h1, h2, h⟩ := ma_pA_e h
  refine ma_pure (as := [v]) (bs := []) (fun H locs als ws hH hS hL hR => ?_) (hK _ _ _ _ h)
  obtain ⟨w, ws, rfl, hw, hR⟩ := ma_RS_cons hR
  cases ma_RS_nil hR
  exact ⟨[], trivial, fun cells slots rest hk => lv_pop C.1 C.2.1 hd (ma_Rv_c1 hw h2 h1) hk⟩
theorem ma_s_dup_x1 (C : ma_Cx p s m args c G cc o nL) (hd : decode cc pc = .ok (.dup_x1, 1)) (hK : ∀ ls st k μ, K ls st k μ → ma_W p l e R s m args below meth c Q G nL c0 s0 (pc + 1) ls st k μ) (hJ : ∀ pc' ls st k μ, J pc' ls st k μ → ma_W p l e R s m args below meth c Q G nL c0 s0 pc' ls st k μ) (h : ma_step O E (.dup_x1) pp qq pc ls st k μ K J D) : ma_W p l e R s m args below meth c Q G nL c0 s0 pc ls st k μ := by
  obtain ⟨v, st, rfl, h1, h2, h⟩ := ma_pA_e h
  obtain ⟨w, st, rfl, h3, h4, h⟩ := ma_pA_e h
  refine ma_pure (as := [v, w]) (bs := [v, w, v]) (fun H locs als ws hH hS hL hR => ?_) (hK _ _ _ _ h)
  obtain ⟨x, ws, rfl, hx, hR⟩ := ma_RS_cons hR
  obtain ⟨y, ws, rfl, hy, hR⟩ := ma_RS_cons hR
  cases ma_RS_nil hR
  exact ⟨[x, y, x], ⟨hx, hy, hx, trivial⟩, fun cells slots rest hk => lv_dup_x1 C.1 C.2.1 hd (ma_Rv_c1 hx h2 h1) (ma_Rv_c1 hy h4 h3) hk⟩
theorem ma_s_dup2 (C : ma_Cx p s m args c G cc o nL) (hd : decode cc pc = .ok (.dup2, 1)) (hK : ∀ ls st k μ, K ls st k μ → ma_W p l e R s m args below meth c Q G nL c0 s0 (pc + 1) ls st k μ) (hJ : ∀ pc' ls st k μ, J pc' ls st k μ → ma_W p l e R s m args below meth c Q G nL c0 s0 pc' ls st k μ) (h : ma_step O E (.dup2) pp qq pc ls st k μ K J D) : ma_W p l e R s m args below meth c Q G nL c0 s0 pc ls st k μ := by
  obtain ⟨v, st, rfl, h1, h2, h⟩ := ma_pA_e h
  obtain ⟨w, st, rfl, h3, h4, h⟩ := ma_pA_e h
  refine ma_pure (as := [v, w]) (bs := [v, w, v, w]) (fun H locs als ws hH hS hL hR => ?_) (hK _ _ _ _ h)
  obtain ⟨x, ws, rfl, hx, hR⟩ := ma_RS_cons hR
  obtain ⟨y, ws, rfl, hy, hR⟩ := ma_RS_cons hR
  cases ma_RS_nil hR
  exact ⟨[x, y, x, y], ⟨hx, hy, hx, hy, trivial⟩, fun cells slots rest hk => lv_dup2_11 C.1 C.2.1 hd (ma_Rv_c1 hx h2 h1) (ma_Rv_c1 hy h4 h3) hk⟩
theorem ma_s_iinc {i : Nat} {n9 : Int} (C : ma_Cx p s m args c G cc o nL) (hd : decode cc pc = .ok (.iinc i n9, 3)) (hK : ∀ ls st k μ, K ls st k μ → ma_W p l e R s m args below meth c Q G nL c0 s0 (pc + 3) ls st k μ) (hJ : ∀ pc' ls st k μ, J pc' ls st k μ → ma_W p l e R s m args below meth c Q G nL c0 s0 pc' ls st k μ) (h : ma_step O E (.iinc i n9) pp qq pc ls st k μ K J D) : ma_W p l e R s m args below meth c Q G nL c0 s0 pc ls st k μ := by
  obtain ⟨n, hg, hr, h⟩ := ma_gI_e h
  intro H locs als vs hH hS hL hR
  obtain ⟨w, h1, x, rfl, hx⟩ := hL.get hg ma_neU_I
  obtain ⟨lv, h3, h4⟩ := ma_lvfull hL.2.1 hL.2.2.1
  obtain ⟨kk, hkk, e⟩ := List.getElem_of_mem (h4 i _ h1)
  refine lv_iinc C.1 C.2.1 hd h3 (k := kk) (List.getElem?_eq_some_iff.mpr ⟨hkk, e⟩) rfl (by rw [← hL.2.1]; exact lv_lt h1) rfl (fun als1 h5 => ?_)
  have e9 : (x + Int32.ofInt n9).toInt = ma_wI (x.toInt + n9) := by simp [ma_wI]
  exact hK _ _ _ _ h H locs als1 vs hH hS (hL.st1 h4 rfl h5 ⟨_, rfl, by rw [e9, hx, ma_wI_id hr]⟩) hR
theorem ma_s_goto {off : Int} (ht : 0 ≤ (pc : Int) + off) (C : ma_Cx p s m args c G cc o nL) (hd : decode cc pc = .ok (.goto off, 3)) (hK : ∀ ls st k μ, K ls st k μ → ma_W p l e R s m args below meth c Q G nL c0 s0 (pc + 3) ls st k μ) (hJ : ∀ pc' ls st k μ, J pc' ls st k μ → ma_W p l e R s m args below meth c Q G nL c0 s0 pc' ls st k μ) (h : ma_step O E (.goto off) pp qq pc ls st k μ K J D) : ma_W p l e R s m args below meth c Q G nL c0 s0 pc ls st k μ := by
  have h : J (ma_tgt pc off) ls st k μ := h
  intro H locs als vs hH hS hL hR
  exact lv_goto C.1 C.2.1 hd (by show (pc : Int) + off = (((pc : Int) + off).toNat : Int); omega) (hJ _ _ _ _ _ h H locs als vs hH hS hL hR)
theorem ma_s_ifCond {cd : Jvm.ClassFile.Cond} {off : Int} (ht : 0 ≤ (pc : Int) + off) (C : ma_Cx p s m args c G cc o nL) (hd : decode cc pc = .ok (.ifCond cd off, 3)) (hK : ∀ ls st k μ, K ls st k μ → ma_W p l e R s m args below meth c Q G nL c0 s0 (pc + 3) ls st k μ) (hJ : ∀ pc' ls st k μ, J pc' ls st k μ → ma_W p l e R s m args below meth c Q G nL c0 s0 pc' ls st k μ) (h : ma_step O E (.ifCond cd off) pp qq pc ls st k μ K J D) : ma_W p l e R s m args below meth c Q G nL c0 s0 pc ls st k μ := by
  obtain ⟨n, st, rfl, h⟩ := ma_pI_e h
  intro H locs als vs hH hS hL hR
  obtain ⟨_, vs, rfl, ⟨x, rfl, hx⟩, hR1⟩ := ma_RS_cons hR
  have e0 : (0 : Int32).toInt = 0 := rfl
  have et : (pc : Int) + off = (ma_tgt pc off : Int) := by show (pc : Int) + off = (((pc : Int) + off).toNat : Int); omega
  cases cd with
  | eq => exact lv_if_eq C.1 C.2.1 hd et (fun z => hJ _ _ _ _ _ (h.1 (by simpa only [ma_cmp, Int32.lt_iff_toInt_lt, Int32.le_iff_toInt_le, ← Int32.toInt_inj, e0, hx, Int.not_lt, Int.not_le] using z)) H locs als vs hH hS hL hR1) (fun z => hK _ _ _ _ (h.2 (by simpa only [ma_cmp, Int32.lt_iff_toInt_lt, Int32.le_iff_toInt_le, ← Int32.toInt_inj, e0, hx, Int.not_lt, Int.not_le, Classical.not_not] using z)) H locs als vs hH hS hL hR1)
  | ne => exact lv_if_ne C.1 C.2.1 hd et (fun z => hJ _ _ _ _ _ (h.1 (by simpa only [ma_cmp, Int32.lt_iff_toInt_lt, Int32.le_iff_toInt_le, ← Int32.toInt_inj, e0, hx, Int.not_lt, Int.not_le] using z)) H locs als vs hH hS hL hR1) (fun z => hK _ _ _ _ (h.2 (by simpa only [ma_cmp, Int32.lt_iff_toInt_lt, Int32.le_iff_toInt_le, ← Int32.toInt_inj, e0, hx, Int.not_lt, Int.not_le, Classical.not_not] using z)) H locs als vs hH hS hL hR1)
  | lt => exact lv_if_lt C.1 C.2.1 hd et (fun z => hJ _ _ _ _ _ (h.1 (by simpa only [ma_cmp, Int32.lt_iff_toInt_lt, Int32.le_iff_toInt_le, ← Int32.toInt_inj, e0, hx, Int.not_lt, Int.not_le] using z)) H locs als vs hH hS hL hR1) (fun z => hK _ _ _ _ (h.2 (by simpa only [ma_cmp, Int32.lt_iff_toInt_lt, Int32.le_iff_toInt_le, ← Int32.toInt_inj, e0, hx, Int.not_lt, Int.not_le, Classical.not_not] using z)) H locs als vs hH hS hL hR1)
  | ge => exact lv_if_ge C.1 C.2.1 hd et (fun z => hJ _ _ _ _ _ (h.1 (by simpa only [ma_cmp, Int32.lt_iff_toInt_lt, Int32.le_iff_toInt_le, ← Int32.toInt_inj, e0, hx, Int.not_lt, Int.not_le] using z)) H locs als vs hH hS hL hR1) (fun z => hK _ _ _ _ (h.2 (by simpa only [ma_cmp, Int32.lt_iff_toInt_lt, Int32.le_iff_toInt_le, ← Int32.toInt_inj, e0, hx, Int.not_lt, Int.not_le, Classical.not_not] using z)) H locs als vs hH hS hL hR1)
  | gt => exact lv_if_gt C.1 C.2.1 hd et (fun z => hJ _ _ _ _ _ (h.1 (by simpa only [ma_cmp, Int32.lt_iff_toInt_lt, Int32.le_iff_toInt_le, ← Int32.toInt_inj, e0, hx, Int.not_lt, Int.not_le] using z)) H locs als vs hH hS hL hR1) (fun z => hK _ _ _ _ (h.2 (by simpa only [ma_cmp, Int32.lt_iff_toInt_lt, Int32.le_iff_toInt_le, ← Int32.toInt_inj, e0, hx, Int.not_lt, Int.not_le, Classical.not_not] using z)) H locs als vs hH hS hL hR1)
  | le => exact lv_if_le C.1 C.2.1 hd et (fun z => hJ _ _ _ _ _ (h.1 (by simpa only [ma_cmp, Int32.lt_iff_toInt_lt, Int32.le_iff_toInt_le, ← Int32.toInt_inj, e0, hx, Int.not_lt, Int.not_le] using z)) H locs als vs hH hS hL hR1) (fun z => hK _ _ _ _ (h.2 (by simpa only [ma_cmp, Int32.lt_iff_toInt_lt, Int32.le_iff_toInt_le, ← Int32.toInt_inj, e0, hx, Int.not_lt, Int.not_le, Classical.not_not] using z)) H locs als vs hH hS hL hR1)
theorem ma_s_if_icmp {cd : Jvm.ClassFile.Cond} {off : Int} (ht : 0 ≤ (pc : Int) + off) (C : ma_Cx p s m args c G cc o nL) (hd : decode cc pc = .ok (.if_icmp cd off, 3)) (hK : ∀ ls st k μ, K ls st k μ → ma_W p l e R s m args below meth c Q G nL c0 s0 (pc + 3) ls st k μ) (hJ : ∀ pc' ls st k μ, J pc' ls st k μ → ma_W p l e R s m args below meth c Q G nL c0 s0 pc' ls st k μ) (h : ma_step O E (.if_icmp cd off) pp qq pc ls st k μ K J D) : ma_W p l e R s m args below meth c Q G nL c0 s0 pc ls st k μ := by
  obtain ⟨n2, st, rfl, h⟩ := ma_pI_e h
  obtain ⟨n, st, rfl, h⟩ := ma_pI_e h
  intro H locs als vs hH hS hL hR
  obtain ⟨_, vs, rfl, ⟨y, rfl, hy⟩, hR0⟩ := ma_RS_cons hR
  obtain ⟨_, vs, rfl, ⟨x, rfl, hx⟩, hR1⟩ := ma_RS_cons hR0
  have et : (pc : Int) + off = (ma_tgt pc off : Int) := by show (pc : Int) + off = (((pc : Int) + off).toNat : Int); omega
  cases cd with
  | eq => exact lv_icmp_eq C.1 C.2.1 hd et (fun z => hJ _ _ _ _ _ (h.1 (by simpa only [ma_cmp, Int32.lt_iff_toInt_lt, Int32.le_iff_toInt_le, ← Int32.toInt_inj, hx, hy, Int.not_lt, Int.not_le] using z)) H locs als vs hH hS hL hR1) (fun z => hK _ _ _ _ (h.2 (by simpa only [ma_cmp, Int32.lt_iff_toInt_lt, Int32.le_iff_toInt_le, ← Int32.toInt_inj, hx, hy, Int.not_lt, Int.not_le, Classical.not_not] using z)) H locs als vs hH hS hL hR1)
  | ne => exact lv_icmp_ne C.1 C.2.1 hd et (fun z => hJ _ _ _ _ _ (h.1 (by simpa only [ma_cmp, Int32.lt_iff_toInt_lt, Int32.le_iff_toInt_le, ← Int32.toInt_inj, hx, hy, Int.not_lt, Int.not_le] using z)) H locs als vs hH hS hL hR1) (fun z => hK _ _ _ _ (h.2 (by simpa only [ma_cmp, Int32.lt_iff_toInt_lt, Int32.le_iff_toInt_le, ← Int32.toInt_inj, hx, hy, Int.not_lt, Int.not_le, Classical.not_not] using z)) H locs als vs hH hS hL hR1)
  | lt => exact lv_icmp_lt C.1 C.2.1 hd et (fun z => hJ _ _ _ _ _ (h.1 (by simpa only [ma_cmp, Int32.lt_iff_toInt_lt, Int32.le_iff_toInt_le, ← Int32.toInt_inj, hx, hy, Int.not_lt, Int.not_le] using z)) H locs als vs hH hS hL hR1) (fun z => hK _ _ _ _ (h.2 (by simpa only [ma_cmp, Int32.lt_iff_toInt_lt, Int32.le_iff_toInt_le, ← Int32.toInt_inj, hx, hy, Int.not_lt, Int.not_le, Classical.not_not] using z)) H locs als vs hH hS hL hR1)
  | ge => exact lv_icmp_ge C.1 C.2.1 hd et (fun z => hJ _ _ _ _ _ (h.1 (by simpa only [ma_cmp, Int32.lt_iff_toInt_lt, Int32.le_iff_toInt_le, ← Int32.toInt_inj, hx, hy, Int.not_lt, Int.not_le] using z)) H locs als vs hH hS hL hR1) (fun z => hK _ _ _ _ (h.2 (by simpa only [ma_cmp, Int32.lt_iff_toInt_lt, Int32.le_iff_toInt_le, ← Int32.toInt_inj, hx, hy, Int.not_lt, Int.not_le, Classical.not_not] using z)) H locs als vs hH hS hL hR1)
  | gt => exact lv_icmp_gt C.1 C.2.1 hd et (fun z => hJ _ _ _ _ _ (h.1 (by simpa only [ma_cmp, Int32.lt_iff_toInt_lt, Int32.le_iff_toInt_le, ← Int32.toInt_inj, hx, hy, Int.not_lt, Int.not_le] using z)) H locs als vs hH hS hL hR1) (fun z => hK _ _ _ _ (h.2 (by simpa only [ma_cmp, Int32.lt_iff_toInt_lt, Int32.le_iff_toInt_le, ← Int32.toInt_inj, hx, hy, Int.not_lt, Int.not_le, Classical.not_not] using z)) H locs als vs hH hS hL hR1)
  | le => exact lv_icmp_le C.1 C.2.1 hd et (fun z => hJ _ _ _ _ _ (h.1 (by simpa only [ma_cmp, Int32.lt_iff_toInt_lt, Int32.le_iff_toInt_le, ← Int32.toInt_inj, hx, hy, Int.not_lt, Int.not_le] using z)) H locs als vs hH hS hL hR1) (fun z => hK _ _ _ _ (h.2 (by simpa only [ma_cmp, Int32.lt_iff_toInt_lt, Int32.le_iff_toInt_le, ← Int32.toInt_inj, hx, hy, Int.not_lt, Int.not_le, Classical.not_not] using z)) H locs als vs hH hS hL hR1)
theorem ma_s_tableswitch {ln : Nat} {d lo hi : Int} {offs : Array Int} (ht : 0 ≤ (pc : Int) + d ∧ ∀ off ∈ offs, 0 ≤ (pc : Int) + off) (C : ma_Cx p s m args c G cc o nL) (hd : decode cc pc = .ok (.tableswitch d lo hi offs, ln)) (hK : ∀ ls st k μ, K ls st k μ → ma_W p l e R s m args below meth c Q G nL c0 s0 (pc + ln) ls st k μ) (hJ : ∀ pc' ls st k μ, J pc' ls st k μ → ma_W p l e R s m args below meth c Q G nL c0 s0 pc' ls st k μ) (h : ma_step O E (.tableswitch d lo hi offs) pp qq pc ls st k μ K J D) : ma_W p l e R s m args below meth c Q G nL c0 s0 pc ls st k μ := by
  obtain ⟨n, st, rfl, h⟩ := ma_pI_e h
  intro H locs als vs hH hS hL hR
  obtain ⟨_, vs, rfl, ⟨x, rfl, hx⟩, hR1⟩ := ma_RS_cons hR
  have et : ∀ off : Int, 0 ≤ (pc : Int) + off → (pc : Int) + off = (ma_tgt pc off : Int) := fun off z => by show (pc : Int) + off = (((pc : Int) + off).toNat : Int); omega
  by_cases hc : n < lo ∨ hi < n
  · exact lv_tableOut C.1 C.2.1 hd (by rw [hx]; exact hc) (et _ ht.1) (hJ _ _ _ _ _ (h.1 hc) H locs als vs hH hS hL hR1)
  · obtain ⟨off, h1, h2⟩ := h.2 hc
    exact lv_tableIn C.1 C.2.1 hd (by rw [hx]; exact fun z => hc (Or.inl z)) (by rw [hx]; exact fun z => hc (Or.inr z)) (by rw [hx]; exact h1) (et _ (ht.2 off (by rw [Array.mem_iff_getElem?]; exact ⟨_, h1⟩))) (hJ _ _ _ _ _ h2 H locs als vs hH hS hL hR1)
end PST
