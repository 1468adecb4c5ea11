/-! what is owed at a method's end may be weakened, and its answer is of the method's kind -/
def ma_kd (n : Nat) (v : Option ma_V) : Prop := (v = none ∧ n = 0) ∨ (∃ b, v = some (ma_I b) ∧ ma_resI n b) ∨ (∃ b, v = some (ma_L b) ∧ n = 4) ∨ (∃ b, v = some (ma_F b) ∧ n = 5) ∨ (∃ b, v = some (ma_D b) ∧ n = 6)
section MON
variable {f g : Int → List ma_V → Prop} {st : List ma_V} {v : ma_V}
theorem ma_pI_mono {f g : Int → List ma_V → Prop} (h : ∀ x s, f x s → g x s) : ma_pI st f → ma_pI st g := by
  intro z; unfold ma_pI at z ⊢; split at z
  · exact h _ _ z
  · exact z.elim
theorem ma_pL_mono {f g : Int → List ma_V → Prop} (h : ∀ x s, f x s → g x s) : ma_pL st f → ma_pL st g := by
  intro z; unfold ma_pL at z ⊢; split at z
  · exact h _ _ z
  · exact z.elim
theorem ma_pR_mono {f g : Nat → Int → List ma_V → Prop} (h : ∀ a r s, f a r s → g a r s) : ma_pR st f → ma_pR st g := by
  intro z; unfold ma_pR at z ⊢; split at z
  · exact h _ _ _ z
  · exact z.elim
theorem ma_pD_mono {f g : UInt64 → List ma_V → Prop} (h : ∀ x s, f x s → g x s) : ma_pD st f → ma_pD st g := by
  intro z; unfold ma_pD at z ⊢; split at z
  · exact h _ _ z
  · exact z.elim
theorem ma_pF_mono {f g : UInt32 → List ma_V → Prop} (h : ∀ x s, f x s → g x s) : ma_pF st f → ma_pF st g := by
  intro z; unfold ma_pF at z ⊢; split at z
  · exact h _ _ z
  · exact z.elim
theorem ma_pA_mono {f g : ma_V → List ma_V → Prop} (h : ∀ x s, f x s → g x s) : ma_pA st f → ma_pA st g := by
  intro z; unfold ma_pA at z ⊢; split at z
  · exact ⟨z.1, z.2.1, h _ _ z.2.2⟩
  · exact z.elim
theorem ma_p0_mono {a b : Prop} (h : a → b) : ma_p0 st a → ma_p0 st b := by
  intro z; unfold ma_p0 at z ⊢; split at z
  · exact h z
  · exact z.elim
theorem ma_gI_mono {f g : Int → Prop} (h : ∀ x, f x → g x) : ma_gI v f → ma_gI v g := by
  intro z; unfold ma_gI at z ⊢; split at z
  · exact h _ z
  · exact z.elim
theorem ma_gL_mono {f g : Int → Prop} (h : ∀ x, f x → g x) : ma_gL v f → ma_gL v g := by
  intro z; unfold ma_gL at z ⊢; split at z
  · exact h _ z
  · exact z.elim
theorem ma_gR_mono {f g : Nat → Int → Prop} (h : ∀ a r, f a r → g a r) : ma_gR v f → ma_gR v g := by
  intro z; unfold ma_gR at z ⊢; split at z
  · exact h _ _ z
  · exact z.elim
theorem ma_gD_mono {f g : UInt64 → Prop} (h : ∀ x, f x → g x) : ma_gD v f → ma_gD v g := by
  intro z; unfold ma_gD at z ⊢; split at z
  · exact h _ z
  · exact z.elim
theorem ma_gF_mono {f g : UInt32 → Prop} (h : ∀ x, f x → g x) : ma_gF v f → ma_gF v g := by
  intro z; unfold ma_gF at z ⊢; split at z
  · exact h _ z
  · exact z.elim
theorem ma_ite_mono {c : Prop} [Decidable c] {a b a' b' : Prop} (h : a → a') (g : b → b') : (if c then a else b) → (if c then a' else b') := by
  intro z; split at z
  · rw [if_pos (by assumption)]; exact h z
  · rw [if_neg (by assumption)]; exact g z
end MON
/-- a statement about memories that no store can break: it looks at the script alone -/
def ma_Iv (I : ma_M → Prop) : Prop := (∀ (m : ma_M) (a : Nat) (r i v : Int), ¬ (ma_ck a).1 = 8 → I m → I (ma_up m a r i v)) ∧ ∀ (m : ma_M) (a b : Nat) (r sp r2 dp n : Int), ¬ (ma_ck b).1 = 8 → I m → I (ma_cpy m a r sp b r2 dp n)
def ma_Om (I : ma_M → Prop) (O : ma_O) : Prop := ∀ (y : Nat) (as : List ma_V) (μ : ma_M) (P P' : ma_R → ma_M → Prop), I μ → (∀ r m, I m → P r m → P' r m) → O y as μ P → O y as μ P'
theorem ma_cont_mono {E : ma_E} {pc : Nat} {ls rest : List ma_V} {k : Nat} {I : ma_M → Prop} {K K' : ma_K} {J J' : ma_J} {D D' : ma_Dn} (hK : ∀ ls st k μ, I μ → K ls st k μ → K' ls st k μ) (hJ : ∀ pc ls st k μ, I μ → J pc ls st k μ → J' pc ls st k μ) (hE : ∀ e k μ, I μ → D (.inr e) k μ → D' (.inr e) k μ) : ∀ (r : ma_R) (m : ma_M), I m → ma_cont E pc ls rest k K J D r m → ma_cont E pc ls rest k K' J' D' r m := by
  intro r m hI
  unfold ma_cont
  match r with
  | .inl none => exact fun h => hK _ _ _ _ hI h
  | .inl (some v) => exact fun h => hK _ _ _ _ hI h
  | .inr e =>
    intro h
    dsimp only at h ⊢
    cases hc : ma_catch E.2.1 pc e with
    | none => rw [hc] at h; exact hE _ _ _ hI h
    | some t => rw [hc] at h; exact hJ _ _ _ _ _ hI h
theorem ma_call_mono {O : ma_O} {E : ma_E} {pc : Nat} {ls : List ma_V} {y : Nat} {as rest : List ma_V} {k : Nat} {μ : ma_M} {I : ma_M → Prop} {K K' : ma_K} {J J' : ma_J} {D D' : ma_Dn} (hI : I μ) (hO : ma_Om I O) (hK : ∀ ls st k μ, I μ → K ls st k μ → K' ls st k μ) (hJ : ∀ pc ls st k μ, I μ → J pc ls st k μ → J' pc ls st k μ) (hE : ∀ e k μ, I μ → D (.inr e) k μ → D' (.inr e) k μ) : ma_call O E pc ls y as rest k μ K J D → ma_call O E pc ls y as rest k μ K' J' D' := fun h => ⟨h.1, h.2.1, hO _ _ _ _ _ hI (ma_cont_mono hK hJ hE) h.2.2⟩
set_option maxHeartbeats 2000000 in
theorem ma_step_mono {O : ma_O} {E : ma_E} {p : Nat} {q : Int} {pc : Nat} {ls st : List ma_V} {k : Nat} {μ : ma_M} {I : ma_M → Prop} {K K' : ma_K} {J J' : ma_J} {D D' : ma_Dn} (hS : ma_Iv I) (hI : I μ) (hO : ma_Om I O) (hK : ∀ ls st k μ, I μ → K ls st k μ → K' ls st k μ) (hJ : ∀ pc ls st k μ, I μ → J pc ls st k μ → J' pc ls st k μ) (hE : ∀ e k μ, I μ → D (.inr e) k μ → D' (.inr e) k μ) (hr : ∀ v k μ, I μ → ma_kd E.2.2.1 v → D (.inl v) k μ → D' (.inl v) k μ) (ins : Instr) : ma_step O E ins p q pc ls st k μ K J D → ma_step O E ins p q pc ls st k μ K' J' D' := by
  cases ins with
  | iadd => exact ma_pI_mono (fun y _ => ma_pI_mono (fun x _ => ma_ite_mono (fun h => hK _ _ _ _ hI h) (fun h => ⟨h.1, hK _ _ _ _ hI h.2⟩)))
  | imul => exact ma_pI_mono (fun y _ => ma_pI_mono (fun x _ => ma_ite_mono (fun h => hK _ _ _ _ hI h) (fun h => ⟨h.1, hK _ _ _ _ hI h.2⟩)))
  | ireturn => exact ma_pI_mono (fun x s => ma_p0_mono (fun h => ⟨h.1, hr _ _ _ hI (.inr (.inl ⟨x, rfl, h.1⟩)) h.2⟩))
  | lreturn => exact ma_pL_mono (fun x s => ma_p0_mono (fun h => ⟨h.1, hr _ _ _ hI (.inr (.inr (.inl ⟨x, rfl, h.1⟩))) h.2⟩))
  | freturn => exact ma_pF_mono (fun x s => ma_p0_mono (fun h => ⟨h.1, hr _ _ _ hI (.inr (.inr (.inr (.inl ⟨x, rfl, h.1⟩)))) h.2⟩))
  | dreturn => exact ma_pD_mono (fun x s => ma_p0_mono (fun h => ⟨h.1, hr _ _ _ hI (.inr (.inr (.inr (.inr ⟨x, rfl, h.1⟩)))) h.2⟩))
  | return_ => exact ma_p0_mono (fun h => ⟨h.1, hr _ _ _ hI (.inl ⟨rfl, h.1⟩) h.2⟩)
  | athrow => exact ma_p0_mono (fun h => ⟨h.1, h.2.1, hE _ _ _ hI h.2.2⟩)
  | invokevirtual i =>
    intro h
    have h : (match ma_pop (ma_na p) st [] with
      | some (as, .inr (.inr (.inl a)) :: rest) => (ma_ck a.1).1 = 10 + q.toNat ∧ ma_call O E pc ls p (ma_Rf a.1 a.2 :: as) rest k μ K J D
      | _ => False) := h
    show (match ma_pop (ma_na p) st [] with
      | some (as, .inr (.inr (.inl a)) :: rest) => (ma_ck a.1).1 = 10 + q.toNat ∧ ma_call O E pc ls p (ma_Rf a.1 a.2 :: as) rest k μ K' J' D'
      | _ => False)
    split at h
    · exact ⟨h.1, ma_call_mono hI hO hK hJ hE h.2⟩
    · exact h.elim
  | invokestatic i =>
    refine ma_ite_mono (ma_pI_mono (fun _ _ => ma_pI_mono (fun _ _ h => ⟨h.1, h.2.1, hK _ _ _ _ hI h.2.2⟩))) (ma_ite_mono (ma_pI_mono (fun _ _ => ma_pI_mono (fun _ _ h => ⟨h.1, h.2.1, hK _ _ _ _ hI h.2.2⟩))) (ma_ite_mono (ma_pD_mono (fun _ _ => ma_pD_mono (fun _ _ h => ⟨h.1, h.2.1, h.2.2.1, h.2.2.2.1, h.2.2.2.2.1, hK _ _ _ _ hI h.2.2.2.2.2⟩))) (ma_ite_mono ?_ ?_)))
    · intro h
      split at h
      · exact ⟨h.1, h.2.1, h.2.2.1, h.2.2.2.1, h.2.2.2.2.1, h.2.2.2.2.2.1, h.2.2.2.2.2.2.1, h.2.2.2.2.2.2.2.1, h.2.2.2.2.2.2.2.2.1, hK _ _ _ _ (hS.2 _ _ _ _ _ _ _ _ (by have := h.2.2.1; omega) hI) h.2.2.2.2.2.2.2.2.2⟩
      · exact h.elim
    · intro h
      split at h
      · exact ma_call_mono hI hO hK hJ hE h
      · exact h.elim
  | getfield i =>
    refine ma_pR_mono (f := fun a r s => (ma_ck a).1 = 10 + p ∧ (match ma_fk p q.toNat with
      | 0 => K ls (ma_I (μ a r q) :: s) k μ
      | 1 => K ls (ma_L (μ a r q) :: s) k μ
      | 2 => K ls (ma_I (μ a r q) :: s) k μ
      | 3 => K ls (ma_Rf (ma_rf a q.toNat) 0 :: s) k μ
      | 4 => K ls (ma_Rf (μ a r q).toNat 0 :: s) k μ
      | _ => False)) (g := fun a r s => (ma_ck a).1 = 10 + p ∧ (match ma_fk p q.toNat with
      | 0 => K' ls (ma_I (μ a r q) :: s) k μ
      | 1 => K' ls (ma_L (μ a r q) :: s) k μ
      | 2 => K' ls (ma_I (μ a r q) :: s) k μ
      | 3 => K' ls (ma_Rf (ma_rf a q.toNat) 0 :: s) k μ
      | 4 => K' ls (ma_Rf (μ a r q).toNat 0 :: s) k μ
      | _ => False)) (fun a r s h => ⟨h.1, ?_⟩)
    have h2 := h.2
    split at h2
    · exact hK _ _ _ _ hI h2
    · exact hK _ _ _ _ hI h2
    · exact hK _ _ _ _ hI h2
    · exact hK _ _ _ _ hI h2
    · exact hK _ _ _ _ hI h2
    · exact h2.elim
  | aload i => exact ma_gR_mono (f := fun a r => K ls (ma_Rf a r :: st) k μ) (g := fun a r => K' ls (ma_Rf a r :: st) k μ) (fun _ _ h => hK _ _ _ _ hI h)
  | aload_n i => exact ma_gR_mono (f := fun a r => K ls (ma_Rf a r :: st) k μ) (g := fun a r => K' ls (ma_Rf a r :: st) k μ) (fun _ _ h => hK _ _ _ _ hI h)
  | arraylength => exact ma_pR_mono (f := fun a _ s => ((ma_ck a).1 ≤ 4 ∨ (ma_ck a).1 = 8) ∧ K ls (ma_I (ma_len E.1 a : Int) :: s) k μ) (g := fun a _ s => ((ma_ck a).1 ≤ 4 ∨ (ma_ck a).1 = 8) ∧ K' ls (ma_I (ma_len E.1 a : Int) :: s) k μ) (fun _ _ _ h => ⟨h.1, hK _ _ _ _ hI h.2⟩)
  | putfield i =>
    intro h
    unfold ma_step at h ⊢
    dsimp only at h ⊢
    split at h
    · exact ⟨h.1, h.2.1, hK _ _ _ _ (hS.1 _ _ _ _ _ (by have := h.1; omega) hI) h.2.2⟩
    · exact ⟨h.1, h.2.1, hK _ _ _ _ (hS.1 _ _ _ _ _ (by have := h.1; omega) hI) h.2.2⟩
    · exact ⟨h.1, h.2.1, h.2.2.1, h.2.2.2.1, hK _ _ _ _ (hS.1 _ _ _ _ _ (by have := h.1; omega) hI) h.2.2.2.2⟩
    · exact h.elim
  | astore_n i =>
    intro h
    unfold ma_step at h ⊢
    dsimp only at h ⊢
    split at h
    · exact ⟨h.1, hK _ _ _ _ hI h.2⟩
    · exact ⟨h.1, hK _ _ _ _ hI h.2⟩
    · exact h.elim
  | astore i =>
    intro h
    unfold ma_step at h ⊢
    dsimp only at h ⊢
    split at h
    · exact ⟨h.1, hK _ _ _ _ hI h.2⟩
    · exact ⟨h.1, hK _ _ _ _ hI h.2⟩
    · exact h.elim
  | ldc i => exact ma_ite_mono (hK _ _ _ _ hI) (hK _ _ _ _ hI)
  | ldc_w i => exact ma_ite_mono (hK _ _ _ _ hI) (hK _ _ _ _ hI)
  | ldc2_w i => exact ma_ite_mono (hK _ _ _ _ hI) (hK _ _ _ _ hI)
  | iaload => exact ma_pI_mono (fun _ _ => ma_pR_mono (fun _ _ _ h => ⟨h.1, h.2.imp (fun z => ⟨z.1, hK _ _ _ _ hI z.2⟩) (fun z => ⟨z.1, fun w => hK _ _ _ _ hI (z.2 w)⟩)⟩))
  | ifCond c off => exact ma_pI_mono (fun _ _ h => ⟨fun w => hJ _ _ _ _ _ hI (h.1 w), fun w => hK _ _ _ _ hI (h.2 w)⟩)
  | if_icmp c off => exact ma_pI_mono (fun _ _ => ma_pI_mono (fun _ _ h => ⟨fun w => hJ _ _ _ _ _ hI (h.1 w), fun w => hK _ _ _ _ hI (h.2 w)⟩))
  | goto off => exact fun h => hJ _ _ _ _ _ hI h
  | tableswitch d lo hi offs => exact ma_pI_mono (fun _ _ h => ⟨fun c => hJ _ _ _ _ _ hI (h.1 c), fun c => by obtain ⟨off, e, z⟩ := h.2 c; exact ⟨off, e, hJ _ _ _ _ _ hI z⟩⟩)
  | _ => first
    | exact fun h => hK _ _ _ _ hI h
    | exact ma_gI_mono (fun _ h => hK _ _ _ _ hI h)
    | exact ma_gL_mono (fun _ h => hK _ _ _ _ hI h)
    | exact ma_gR_mono (fun _ _ h => hK _ _ _ _ hI h)
    | exact ma_gD_mono (fun _ h => hK _ _ _ _ hI h)
    | exact ma_gF_mono (fun _ h => hK _ _ _ _ hI h)
    | exact ma_gI_mono (fun _ h => ⟨h.1, hK _ _ _ _ hI h.2⟩)
    | exact ma_pI_mono (fun _ _ h => hK _ _ _ _ hI h)
    | exact ma_pL_mono (fun _ _ h => hK _ _ _ _ hI h)
    | exact ma_pA_mono (fun _ _ h => hK _ _ _ _ hI h)
    | exact ma_pI_mono (fun _ _ h => ⟨h.1, hK _ _ _ _ hI h.2⟩)
    | exact ma_pL_mono (fun _ _ h => ⟨h.1, hK _ _ _ _ hI h.2⟩)
    | exact ma_pD_mono (fun _ _ h => ⟨h.1, hK _ _ _ _ hI h.2⟩)
    | exact ma_pF_mono (fun _ _ h => ⟨h.1, hK _ _ _ _ hI h.2⟩)
    | exact ma_pI_mono (fun _ _ => ma_pI_mono (fun _ _ h => hK _ _ _ _ hI h))
    | exact ma_pL_mono (fun _ _ => ma_pL_mono (fun _ _ h => hK _ _ _ _ hI h))
    | exact ma_pI_mono (fun _ _ => ma_pL_mono (fun _ _ h => hK _ _ _ _ hI h))
    | exact ma_pD_mono (fun _ _ => ma_pD_mono (fun _ _ h => hK _ _ _ _ hI h))
    | exact ma_pF_mono (fun _ _ => ma_pF_mono (fun _ _ h => hK _ _ _ _ hI h))
    | exact ma_pA_mono (fun _ _ => ma_pA_mono (fun _ _ h => hK _ _ _ _ hI h))
    | exact ma_pI_mono (fun _ _ => ma_pI_mono (fun _ _ h => ⟨h.1, hK _ _ _ _ hI h.2⟩))
    | exact ma_pL_mono (fun _ _ => ma_pL_mono (fun _ _ h => ⟨h.1, hK _ _ _ _ hI h.2⟩))
    | exact ma_pD_mono (fun _ _ => ma_pD_mono (fun _ _ h => ⟨h.1, hK _ _ _ _ hI h.2⟩))
    | exact ma_pF_mono (fun _ _ => ma_pF_mono (fun _ _ h => ⟨h.1, hK _ _ _ _ hI h.2⟩))
    | exact ma_pI_mono (fun _ _ => ma_pI_mono (fun _ _ h => ⟨h.1, h.2.1, hK _ _ _ _ hI h.2.2⟩))
    | exact ma_pR_mono (fun _ _ _ h => ⟨h.1, hK _ _ _ _ hI h.2⟩)
    | exact ma_pI_mono (fun _ _ => ma_pR_mono (fun _ _ _ h => ⟨h.1, h.2.1, hK _ _ _ _ hI h.2.2⟩))
    | exact ma_pI_mono (fun _ _ => ma_pI_mono (fun _ _ => ma_pR_mono (fun _ _ _ h => ⟨h.1, h.2.1, hK _ _ _ _ (hS.1 _ _ _ _ _ (by have := h.2.1; omega) hI) h.2.2⟩)))
    | exact ma_pI_mono (fun _ _ => ma_pI_mono (fun _ _ => ma_pR_mono (fun _ _ _ h => ⟨h.1, h.2.1, h.2.2.1, hK _ _ _ _ (hS.1 _ _ _ _ _ (by have := h.2.1; omega) hI) h.2.2.2⟩)))
    | exact ma_pL_mono (fun _ _ => ma_pI_mono (fun _ _ => ma_pR_mono (fun _ _ _ h => ⟨h.1, h.2.1, hK _ _ _ _ (hS.1 _ _ _ _ _ (by have := h.2.1; omega) hI) h.2.2⟩)))
    | exact ma_pD_mono (fun _ _ => ma_pI_mono (fun _ _ => ma_pR_mono (fun _ _ _ h => ⟨h.1, h.2.1, hK _ _ _ _ (hS.1 _ _ _ _ _ (by have := h.2.1; omega) hI) h.2.2⟩)))
    | exact fun h => h
theorem ma_den_mono {O : ma_O} {E : ma_E} {I : ma_M → Prop} {J J' : ma_J} {D D' : ma_Dn} (hS : ma_Iv I) (hO : ma_Om I O) (hJ : ∀ pc ls st k μ, I μ → J pc ls st k μ → J' pc ls st k μ) (hE : ∀ e k μ, I μ → D (.inr e) k μ → D' (.inr e) k μ) (hr : ∀ v k μ, I μ → ma_kd E.2.2.1 v → D (.inl v) k μ → D' (.inl v) k μ) : ∀ (cs : List ma_AI) (pc : Nat) (ls st : List ma_V) (k : Nat) (μ : ma_M), I μ → ma_den O E cs pc ls st k μ J D → ma_den O E cs pc ls st k μ J' D'
  | [], _, _, _, _, _, hI, h => hJ _ _ _ _ _ hI h
  | a :: cs, pc, ls, st, k, μ, hI, h => ma_step_mono hS hI hO (fun ls st k μ i z => ma_den_mono hS hO hJ hE hr cs _ ls st k μ i z) hJ hE hr a.2.1 h
theorem ma_run_mono {O : ma_O} {E : ma_E} {bl : ma_B} {I : ma_M → Prop} {D D' : ma_Dn} {pc : Nat} {ls st : List ma_V} {k : Nat} {μ : ma_M} (hS : ma_Iv I) (hI : I μ) (hO : ma_Om I O) (hE : ∀ e k μ, I μ → D (.inr e) k μ → D' (.inr e) k μ) (hr : ∀ v k μ, I μ → ma_kd E.2.2.1 v → D (.inl v) k μ → D' (.inl v) k μ) (h : ma_run O E bl D pc ls st k μ) : ma_run O E bl D' pc ls st k μ := fun R hR => h (fun pc ls st k μ => I μ → R pc ls st k μ) (fun pc b ls st k μ hb hd i => hR pc b ls st k μ hb (ma_den_mono hS hO (fun _ _ _ _ _ i z => z i) hE hr b.2 pc _ st k μ i hd)) hI
theorem ma_Ox_mono {LS : Nat} {I : ma_M → Prop} (hS : ma_Iv I) : ∀ d : Nat, ma_Om I (ma_Ox LS d)
  | 0 => fun _ _ _ _ _ _ _ h => h
  | d + 1 => fun y as μ P P' hI hP h => ⟨h.1, h.2.1, h.2.2.1, ma_run_mono hS hI (ma_Ox_mono hS d) (fun e k m i z => ⟨z.1, z.2.1, z.2.2.1, hP _ _ i z.2.2.2⟩) (fun v k m i _ z => ⟨z.1, hP _ _ i z.2⟩) h.2.2.2⟩
theorem ma_Iv_0 (c : Int → Int → Int) : ma_Iv (fun m => m 0 = c) := ⟨fun m a r i v h e => by
  have : ¬ (0 : Nat) = a := fun z => h (by rw [← z]; decide)
  show ma_up m a r i v 0 = c
  funext r' i'
  unfold ma_up
  rw [if_neg (fun z => this z.1), e], fun m a b r sp r2 dp n h e => by
  have : ¬ (0 : Nat) = b := fun z => h (by rw [← z]; decide)
  show ma_cpy m a r sp b r2 dp n 0 = c
  funext r' i'
  unfold ma_cpy
  rw [if_neg (fun z => this z.1), e]⟩
/-- the answer is of the method's kind, and the script is as it was -/
theorem ma_Ox_kd {LS d y : Nat} {as : List ma_V} {μ : ma_M} {P : ma_R → ma_M → Prop} (h : ma_Ox LS (d + 1) y as μ P) : ma_Ox LS (d + 1) y as μ (fun r m => P r m ∧ (∀ v, r = .inl v → ma_kd (ma_rk y) v) ∧ m 0 = μ 0) := ⟨h.1, h.2.1, h.2.2.1, ma_run_mono (I := fun m => m 0 = μ 0) (ma_Iv_0 _) rfl (ma_Ox_mono (ma_Iv_0 _) d) (fun e k m i z => ⟨z.1, z.2.1, z.2.2.1, z.2.2.2, (fun v w => by cases w), i⟩) (fun v k m i hk z => ⟨z.1, z.2, (fun w e => by cases e; exact hk), i⟩) h.2.2.2⟩
theorem ma_Ox_wk {LS d y : Nat} {as : List ma_V} {μ : ma_M} {P P' : ma_R → ma_M → Prop} (hP : ∀ r m, P r m → P' r m) (h : ma_Ox LS d y as μ P) : ma_Ox LS d y as μ P' := ma_Ox_mono (I := fun _ => True) ⟨fun _ _ _ _ _ _ _ => trivial, fun _ _ _ _ _ _ _ _ _ _ => trivial⟩ d y as μ P P' trivial (fun r m _ z => hP r m z) h
