/-! the law's body: its blocks behind the start are what the bytes say; it runs on the JVM -/
set_option maxRecDepth 100000 in
theorem st_chk_m : ma_chk code 12 9 mb_law.tail = true := by decide +kernel
theorem st_at {pc : Nat} {x : List Bool × List ma_AI} (h : ma_at mb_law pc = some x) (h0 : pc ≠ 0) : ma_at mb_law.tail pc = some x := by
  have key : ∀ t : ma_Tb, (∀ y ys, t = y :: ys → y.1 = 0) → ma_at t pc = some x → ma_at t.tail pc = some x := by
    intro t ht h
    cases t with
    | nil => cases h
    | cons y ys =>
      unfold ma_at at h
      rw [ht y ys rfl, if_neg h0] at h
      exact h
  refine key mb_law (fun y ys hy => ?_) h
  have h1 := congrArg (fun t : ma_Tb => t.head?.map (·.1)) hy
  have h2 : (mb_law.head?.map (·.1)) = some 0 := rfl
  have h3 : some 0 = some y.1 := h2.symm.trans h1
  exact (Option.some.inj h3).symm
theorem st_b0 {O : ma_O} {E : ma_E} {x : List Bool × List ma_AI} {ls st : List ma_V} {k : Nat} {μ : ma_M} {J : ma_J} {D : ma_Dn} (h : ma_at mb_law 0 = some x) (hd : ma_den O E x.2 0 ls st k μ J D) : False := by
  cases h
  exact hd
/-- the law's body on the small machine runs on the JVM (the bytes ahead of its loop are the constructors' part) -/
theorem st_run {p : Program} {l : Launch} {e : Env} {R : Room} {s : State} {m : MethodId} {args : Array Value} {below : List Frame} {meth : Method} {c : Code} {Q : State → Prop} {G : ma_G} {c0 s0 pc k d : Nat} {ls st : List ma_V} {μ : ma_M} {O : ma_O} {E : ma_E} {D : ma_Dn} (C : ma_Cx p s m args c G code 12 9) (hLn : 9 = c.maxLocals) (hLS : E.1 = G.LS ∧ G.LS ≤ 2048)
    (hR : d + 11 ≤ R.frames ∧ 43 * (d + 1) + 200 ≤ R.locals) (hRo : ma_Ro R E c0 s0) (hO : ∀ y as μ Post, O y as μ Post → ma_Ct l G d y as μ Post)
    (hX : ma_hX p l e R s m args below meth c Q E) (hE : ma_hE p l e R s m args below meth c Q G code 12 9 c0 s0 E D) (h : ma_run O E (ma_at mb_law) D pc ls st k μ) : ma_W p l e R s m args below meth c Q G 9 c0 s0 pc ls st k μ := by
  refine h (fun pc ls st k μ => ma_W p l e R s m args below meth c Q G 9 c0 s0 pc ls st k μ) (fun pc b ls st k μ hb hd => ?_)
  by_cases h0 : pc = 0
  · subst h0
    exact (st_b0 hb hd).elim
  · obtain ⟨h1, h2⟩ := ma_chk_at st_chk_m (st_at hb h0)
    have h3 := ma_s_den C hLn hLS hR hRo hO hX hE (fun _ _ _ _ _ z => z) b.2 pc _ st k μ h2 hd
    intro H locs als vs hH hS hL hR9
    exact h3 H locs als vs hH hS (hL.msk h1) hR9
