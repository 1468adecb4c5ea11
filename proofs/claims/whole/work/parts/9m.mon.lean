/-! what is owed at a method's end may be weakened, and its answer is of the method's kind -/
def ma_kd (n : Nat) (v : Option ma_V) : Prop := (v = none ∧ n = 0) ∨ (∃ b, v = some (ma_I b) ∧ ma_resI n b) ∨ (∃ b, v = some (ma_L b) ∧ n = 4) ∨ (∃ b, v = some (ma_F b) ∧ n = 5) ∨ (∃ b, v = some (ma_D b) ∧ n = 6)
section MON
variable {f g : Int → List ma_V → Prop} {st : List ma_V} {v : ma_V}
theorem ma_pI_mono {f g : Int → List ma_V → Prop} (h : ∀ x s, f x s → g x s) : ma_pI st f → ma_pI st g := by
  intro z; unfold ma_pI at z ⊢; split at z
  · exact h _ _ z
  · exact z.elim
theorem ma_pL_mono {f g : Int → List ma_V → Prop} (h : ∀ x s, f x s → g x s) : ma_pL st f → ma_pL st g := by
  intro z; unfold ma_pL at z ⊢; split at z
  · exact h _ _ z
  · exact z.elim
theorem ma_pR_mono {f g : Nat → Int → List ma_V → Prop} (h : ∀ a r s, f a r s → g a r s) : ma_pR st f → ma_pR st g := by
  intro z; unfold ma_pR at z ⊢; split at z
  · exact h _ _ _ z
  · exact z.elim
theorem ma_pD_mono {f g : UInt64 → List ma_V → Prop} (h : ∀ x s, f x s → g x s) : ma_pD st f → ma_pD st g := by
  intro z; unfold ma_pD at z ⊢; split at z
  · exact h _ _ z
  · exact z.elim
theorem ma_pF_mono {f g : UInt32 → List ma_V → Prop} (h : ∀ x s, f x s → g x s) : ma_pF st f → ma_pF st g := by
  intro z; unfold ma_pF at z ⊢; split at z
  · exact h _ _ z
  · exact z.elim
theorem ma_pA_mono {f g : ma_V → List ma_V → Prop} (h : ∀ x s, f x s → g x s) : ma_pA st f → ma_pA st g := by
  intro z; unfold ma_pA at z ⊢; split at z
  · exact ⟨z.1, z.2.1, h _ _ z.2.2⟩
  · exact z.elim
theorem ma_p0_mono {a b : Prop} (h : a → b) : ma_p0 st a → ma_p0 st b := by
  intro z; unfold ma_p0 at z ⊢; split at z
  · exact h z
  · exact z.elim
theorem ma_gI_mono {f g : Int → Prop} (h : ∀ x, f x → g x) : ma_gI v f → ma_gI v g := by
  intro z; unfold ma_gI at z ⊢; split at z
  · exact h _ z
  · exact z.elim
theorem ma_gL_mono {f g : Int → Prop} (h : ∀ x, f x → g x) : ma_gL v f → ma_gL v g := by
  intro z; unfold ma_gL at z ⊢; split at z
  · exact h _ z
  · exact z.elim
theorem ma_gR_mono {f g : Nat → Int → Prop} (h : ∀ a r, f a r → g a r) : ma_gR v f → ma_gR v g := by
  intro z; unfold ma_gR at z ⊢; split at z
  · exact h _ _ z
  · exact z.elim
theorem ma_gD_mono {f g : UInt64 → Prop} (h : ∀ x, f x → g x) : ma_gD v f → ma_gD v g := by
  intro z; unfold ma_gD at z ⊢; split at z
  · exact h _ z
  · exact z.elim
theorem ma_gF_mono {f g : UInt32 → Prop} (h : ∀ x, f x → g x) : ma_gF v f → ma_gF v g := by
  intro z; unfold ma_gF at z ⊢; split at z
  · exact h _ z
  · exact z.elim
theorem ma_ite_mono {c : Prop} [Decidable c] {a b a' b' : Prop} (h : a → a') (g : b → b') : (if c then a else b) → (if c then a' else b') := by
  intro z; split at z
  · rw [if_pos (by assumption)]; exact h z
  · rw [if_neg (by assumption)]; exact g z
end MON
def ma_Om (O : ma_O) : Prop := ∀ (y : Nat) (as : List ma_V) (μ : ma_M) (P P' : ma_R → ma_M → Prop), (∀ r m, P r m → P' r m) → O y as μ P → O y as μ P'
theorem ma_cont_mono {E : ma_E} {pc : Nat} {ls rest : List ma_V} {k : Nat} {K K' : ma_K} {J : ma_J} {D D' : ma_Dn} (hK : ∀ ls st k μ, K ls st k μ → K' ls st k μ) (hE : ∀ e k μ, D (.inr e) k μ → D' (.inr e) k μ) : ∀ (r : ma_R) (m : ma_M), ma_cont E pc ls rest k K J D r m → ma_cont E pc ls rest k K' J D' r m := by
  intro r m
  unfold ma_cont
  match r with
  | .inl none => exact fun h => hK _ _ _ _ h
  | .inl (some v) => exact fun h => hK _ _ _ _ h
  | .inr e =>
    intro h
    dsimp only at h ⊢
    cases hc : ma_catch E.2.1 pc e with
    | none => rw [hc] at h; exact hE _ _ _ h
    | some t => rw [hc] at h; exact h
theorem ma_call_mono {O : ma_O} {E : ma_E} {pc : Nat} {ls : List ma_V} {y : Nat} {as rest : List ma_V} {k : Nat} {μ : ma_M} {K K' : ma_K} {J : ma_J} {D D' : ma_Dn} (hO : ma_Om O) (hK : ∀ ls st k μ, K ls st k μ → K' ls st k μ) (hE : ∀ e k μ, D (.inr e) k μ → D' (.inr e) k μ) : ma_call O E pc ls y as rest k μ K J D → ma_call O E pc ls y as rest k μ K' J D' := fun h => ⟨h.1, h.2.1, hO _ _ _ _ _ (ma_cont_mono hK hE) h.2.2⟩
set_option maxHeartbeats 2000000 in
theorem ma_step_mono {O : ma_O} {E : ma_E} {p : Nat} {q : Int} {pc : Nat} {ls st : List ma_V} {k : Nat} {μ : ma_M} {K K' : ma_K} {J : ma_J} {D D' : ma_Dn} (hO : ma_Om O) (hK : ∀ ls st k μ, K ls st k μ → K' ls st k μ) (hE : ∀ e k μ, D (.inr e) k μ → D' (.inr e) k μ) (hr : ∀ v k μ, ma_kd E.2.2.1 v → D (.inl v) k μ → D' (.inl v) k μ) (ins : Instr) : ma_step O E ins p q pc ls st k μ K J D → ma_step O E ins p q pc ls st k μ K' J D' := by
  cases ins with
  | ireturn => exact ma_pI_mono (fun x s => ma_p0_mono (fun h => ⟨h.1, hr _ _ _ (.inr (.inl ⟨x, rfl, h.1⟩)) h.2⟩))
  | lreturn => exact ma_pL_mono (fun x s => ma_p0_mono (fun h => ⟨h.1, hr _ _ _ (.inr (.inr (.inl ⟨x, rfl, h.1⟩))) h.2⟩))
  | freturn => exact ma_pF_mono (fun x s => ma_p0_mono (fun h => ⟨h.1, hr _ _ _ (.inr (.inr (.inr (.inl ⟨x, rfl, h.1⟩)))) h.2⟩))
  | dreturn => exact ma_pD_mono (fun x s => ma_p0_mono (fun h => ⟨h.1, hr _ _ _ (.inr (.inr (.inr (.inr ⟨x, rfl, h.1⟩)))) h.2⟩))
  | return_ => exact ma_p0_mono (fun h => ⟨h.1, hr _ _ _ (.inl ⟨rfl, h.1⟩) h.2⟩)
  | athrow => exact ma_p0_mono (fun h => ⟨h.1, h.2.1, hE _ _ _ h.2.2⟩)
  | invokevirtual i =>
    intro h
    have h : (match ma_pop (ma_na p) st [] with
      | some (as, .inr (.inr (.inl a)) :: rest) => (ma_ck a.1).1 = 10 + q.toNat ∧ ma_call O E pc ls p (ma_Rf a.1 a.2 :: as) rest k μ K J D
      | _ => False) := h
    show (match ma_pop (ma_na p) st [] with
      | some (as, .inr (.inr (.inl a)) :: rest) => (ma_ck a.1).1 = 10 + q.toNat ∧ ma_call O E pc ls p (ma_Rf a.1 a.2 :: as) rest k μ K' J D'
      | _ => False)
    split at h
    · exact ⟨h.1, ma_call_mono hO hK hE h.2⟩
    · exact h.elim
  | invokestatic i =>
    refine ma_ite_mono (ma_pI_mono (fun _ _ => ma_pI_mono (fun _ _ h => ⟨h.1, h.2.1, hK _ _ _ _ h.2.2⟩))) (ma_ite_mono (ma_pI_mono (fun _ _ => ma_pI_mono (fun _ _ h => ⟨h.1, h.2.1, hK _ _ _ _ h.2.2⟩))) (ma_ite_mono (ma_pD_mono (fun _ _ => ma_pD_mono (fun _ _ h => ⟨h.1, h.2.1, h.2.2.1, h.2.2.2.1, hK _ _ _ _ h.2.2.2.2⟩))) (ma_ite_mono ?_ ?_)))
    · intro h
      split at h
      · exact ⟨h.1, h.2.1, h.2.2.1, h.2.2.2.1, h.2.2.2.2.1, h.2.2.2.2.2.1, h.2.2.2.2.2.2.1, h.2.2.2.2.2.2.2.1, h.2.2.2.2.2.2.2.2.1, hK _ _ _ _ h.2.2.2.2.2.2.2.2.2⟩
      · exact h.elim
    · intro h
      split at h
      · exact ma_call_mono hO hK hE h
      · exact h.elim
  | getfield i =>
    refine ma_pR_mono (f := fun a r s => (ma_ck a).1 = 10 + p ∧ (match ma_fk p q.toNat with
      | 0 => K ls (ma_I (μ a r q) :: s) k μ
      | 1 => K ls (ma_L (μ a r q) :: s) k μ
      | 2 => K ls (ma_I (μ a r q) :: s) k μ
      | 3 => K ls (ma_Rf (ma_rf a q.toNat) 0 :: s) k μ
      | 4 => K ls (ma_Rf (μ a r q).toNat 0 :: s) k μ
      | _ => False)) (g := fun a r s => (ma_ck a).1 = 10 + p ∧ (match ma_fk p q.toNat with
      | 0 => K' ls (ma_I (μ a r q) :: s) k μ
      | 1 => K' ls (ma_L (μ a r q) :: s) k μ
      | 2 => K' ls (ma_I (μ a r q) :: s) k μ
      | 3 => K' ls (ma_Rf (ma_rf a q.toNat) 0 :: s) k μ
      | 4 => K' ls (ma_Rf (μ a r q).toNat 0 :: s) k μ
      | _ => False)) (fun a r s h => ⟨h.1, ?_⟩)
    have h2 := h.2
    split at h2
    · exact hK _ _ _ _ h2
    · exact hK _ _ _ _ h2
    · exact hK _ _ _ _ h2
    · exact hK _ _ _ _ h2
    · exact hK _ _ _ _ h2
    · exact h2.elim
  | aload i => exact ma_gR_mono (f := fun a r => K ls (ma_Rf a r :: st) k μ) (g := fun a r => K' ls (ma_Rf a r :: st) k μ) (fun _ _ h => hK _ _ _ _ h)
  | aload_n i => exact ma_gR_mono (f := fun a r => K ls (ma_Rf a r :: st) k μ) (g := fun a r => K' ls (ma_Rf a r :: st) k μ) (fun _ _ h => hK _ _ _ _ h)
  | arraylength => exact ma_pR_mono (f := fun a _ s => ((ma_ck a).1 ≤ 4 ∨ (ma_ck a).1 = 8) ∧ K ls (ma_I (ma_len E.1 a : Int) :: s) k μ) (g := fun a _ s => ((ma_ck a).1 ≤ 4 ∨ (ma_ck a).1 = 8) ∧ K' ls (ma_I (ma_len E.1 a : Int) :: s) k μ) (fun _ _ _ h => ⟨h.1, hK _ _ _ _ h.2⟩)
  | putfield i =>
    intro h
    unfold ma_step at h ⊢
    dsimp only at h ⊢
    split at h
    · exact ⟨h.1, h.2.1, hK _ _ _ _ h.2.2⟩
    · exact ⟨h.1, h.2.1, hK _ _ _ _ h.2.2⟩
    · exact ⟨h.1, h.2.1, h.2.2.1, h.2.2.2.1, hK _ _ _ _ h.2.2.2.2⟩
    · exact h.elim
  | astore_n i =>
    intro h
    unfold ma_step at h ⊢
    dsimp only at h ⊢
    split at h
    · exact ⟨h.1, hK _ _ _ _ h.2⟩
    · exact ⟨h.1, hK _ _ _ _ h.2⟩
    · exact h.elim
  | astore i =>
    intro h
    unfold ma_step at h ⊢
    dsimp only at h ⊢
    split at h
    · exact ⟨h.1, hK _ _ _ _ h.2⟩
    · exact ⟨h.1, hK _ _ _ _ h.2⟩
    · exact h.elim
  | ldc i => exact ma_ite_mono (hK _ _ _ _) (hK _ _ _ _)
  | ldc_w i => exact ma_ite_mono (hK _ _ _ _) (hK _ _ _ _)
  | ldc2_w i => exact ma_ite_mono (hK _ _ _ _) (hK _ _ _ _)
  | iaload => exact ma_pI_mono (fun _ _ => ma_pR_mono (fun _ _ _ h => ⟨h.1, h.2.imp (fun z => ⟨z.1, hK _ _ _ _ z.2⟩) (fun z => ⟨z.1, fun w => hK _ _ _ _ (z.2 w)⟩)⟩))
  | ifCond c off => exact ma_pI_mono (fun _ _ h => ⟨h.1, fun w => hK _ _ _ _ (h.2 w)⟩)
  | if_icmp c off => exact ma_pI_mono (fun _ _ => ma_pI_mono (fun _ _ h => ⟨h.1, fun w => hK _ _ _ _ (h.2 w)⟩))
  | goto off => exact fun h => h
  | tableswitch d lo hi offs => exact fun h => h
  | _ => first
    | exact fun h => hK _ _ _ _ h
    | exact ma_gI_mono (fun _ h => hK _ _ _ _ h)
    | exact ma_gL_mono (fun _ h => hK _ _ _ _ h)
    | exact ma_gR_mono (fun _ _ h => hK _ _ _ _ h)
    | exact ma_gD_mono (fun _ h => hK _ _ _ _ h)
    | exact ma_gF_mono (fun _ h => hK _ _ _ _ h)
    | exact ma_gI_mono (fun _ h => ⟨h.1, hK _ _ _ _ h.2⟩)
    | exact ma_pI_mono (fun _ _ h => hK _ _ _ _ h)
    | exact ma_pL_mono (fun _ _ h => hK _ _ _ _ h)
    | exact ma_pA_mono (fun _ _ h => hK _ _ _ _ h)
    | exact ma_pI_mono (fun _ _ h => ⟨h.1, hK _ _ _ _ h.2⟩)
    | exact ma_pL_mono (fun _ _ h => ⟨h.1, hK _ _ _ _ h.2⟩)
    | exact ma_pD_mono (fun _ _ h => ⟨h.1, hK _ _ _ _ h.2⟩)
    | exact ma_pF_mono (fun _ _ h => ⟨h.1, hK _ _ _ _ h.2⟩)
    | exact ma_pI_mono (fun _ _ => ma_pI_mono (fun _ _ h => hK _ _ _ _ h))
    | exact ma_pL_mono (fun _ _ => ma_pL_mono (fun _ _ h => hK _ _ _ _ h))
    | exact ma_pI_mono (fun _ _ => ma_pL_mono (fun _ _ h => hK _ _ _ _ h))
    | exact ma_pD_mono (fun _ _ => ma_pD_mono (fun _ _ h => hK _ _ _ _ h))
    | exact ma_pF_mono (fun _ _ => ma_pF_mono (fun _ _ h => hK _ _ _ _ h))
    | exact ma_pA_mono (fun _ _ => ma_pA_mono (fun _ _ h => hK _ _ _ _ h))
    | exact ma_pI_mono (fun _ _ => ma_pI_mono (fun _ _ h => ⟨h.1, hK _ _ _ _ h.2⟩))
    | exact ma_pL_mono (fun _ _ => ma_pL_mono (fun _ _ h => ⟨h.1, hK _ _ _ _ h.2⟩))
    | exact ma_pD_mono (fun _ _ => ma_pD_mono (fun _ _ h => ⟨h.1, hK _ _ _ _ h.2⟩))
    | exact ma_pF_mono (fun _ _ => ma_pF_mono (fun _ _ h => ⟨h.1, hK _ _ _ _ h.2⟩))
    | exact ma_pI_mono (fun _ _ => ma_pI_mono (fun _ _ h => ⟨h.1, h.2.1, hK _ _ _ _ h.2.2⟩))
    | exact ma_pR_mono (fun _ _ _ h => ⟨h.1, hK _ _ _ _ h.2⟩)
    | exact ma_pI_mono (fun _ _ => ma_pR_mono (fun _ _ _ h => ⟨h.1, h.2.1, hK _ _ _ _ h.2.2⟩))
    | exact ma_pI_mono (fun _ _ => ma_pI_mono (fun _ _ => ma_pR_mono (fun _ _ _ h => ⟨h.1, h.2.1, hK _ _ _ _ h.2.2⟩)))
    | exact ma_pI_mono (fun _ _ => ma_pI_mono (fun _ _ => ma_pR_mono (fun _ _ _ h => ⟨h.1, h.2.1, h.2.2.1, hK _ _ _ _ h.2.2.2⟩)))
    | exact ma_pL_mono (fun _ _ => ma_pI_mono (fun _ _ => ma_pR_mono (fun _ _ _ h => ⟨h.1, h.2.1, hK _ _ _ _ h.2.2⟩)))
    | exact ma_pD_mono (fun _ _ => ma_pI_mono (fun _ _ => ma_pR_mono (fun _ _ _ h => ⟨h.1, h.2.1, hK _ _ _ _ h.2.2⟩)))
    | exact fun h => h
theorem ma_den_mono {O : ma_O} {E : ma_E} {J : ma_J} {D D' : ma_Dn} (hO : ma_Om O) (hE : ∀ e k μ, D (.inr e) k μ → D' (.inr e) k μ) (hr : ∀ v k μ, ma_kd E.2.2.1 v → D (.inl v) k μ → D' (.inl v) k μ) : ∀ (cs : List ma_AI) (pc : Nat) (ls st : List ma_V) (k : Nat) (μ : ma_M), ma_den O E cs pc ls st k μ J D → ma_den O E cs pc ls st k μ J D'
  | [], _, _, _, _, _, h => h
  | a :: cs, pc, ls, st, k, μ, h => ma_step_mono hO (fun ls st k μ z => ma_den_mono hO hE hr cs _ ls st k μ z) hE hr a.2.1 h
theorem ma_run_mono {O : ma_O} {E : ma_E} {bl : ma_B} {D D' : ma_Dn} {pc : Nat} {ls st : List ma_V} {k : Nat} {μ : ma_M} (hO : ma_Om O) (hE : ∀ e k μ, D (.inr e) k μ → D' (.inr e) k μ) (hr : ∀ v k μ, ma_kd E.2.2.1 v → D (.inl v) k μ → D' (.inl v) k μ) (h : ma_run O E bl D pc ls st k μ) : ma_run O E bl D' pc ls st k μ := fun R hR => h R (fun pc b ls st k μ hb hd => hR pc b ls st k μ hb (ma_den_mono hO hE hr b.2 pc _ st k μ hd))
theorem ma_Ox_mono {LS : Nat} : ∀ d : Nat, ma_Om (ma_Ox LS d)
  | 0 => fun _ _ _ _ _ _ h => h
  | d + 1 => fun y as μ P P' hP h => ⟨h.1, h.2.1, h.2.2.1, ma_run_mono (ma_Ox_mono d) (fun e k m z => ⟨z.1, z.2.1, z.2.2.1, hP _ _ z.2.2.2⟩) (fun v k m _ z => ⟨z.1, hP _ _ z.2⟩) h.2.2.2⟩
/-- the answer is of the method's kind -/
theorem ma_Ox_kd {LS d y : Nat} {as : List ma_V} {μ : ma_M} {P : ma_R → ma_M → Prop} (h : ma_Ox LS (d + 1) y as μ P) : ma_Ox LS (d + 1) y as μ (fun r m => P r m ∧ ∀ v, r = .inl v → ma_kd (ma_rk y) v) := ⟨h.1, h.2.1, h.2.2.1, ma_run_mono (ma_Ox_mono d) (fun e k m z => ⟨z.1, z.2.1, z.2.2.1, z.2.2.2, fun v w => by cases w⟩) (fun v k m hk z => ⟨z.1, z.2, fun w e => by cases e; exact hk⟩) h.2.2.2⟩
