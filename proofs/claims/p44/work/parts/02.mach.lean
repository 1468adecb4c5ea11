/-! THE SMALL MACHINE: one frame's instructions over numbers, with a memory by cells; its calls go to a relation O -/
abbrev ma_V := Int ⊕ Int ⊕ (Nat × Int) ⊕ UInt64 ⊕ UInt32 ⊕ Nat ⊕ Unit
abbrev ma_I (n : Int) : ma_V := .inl n
abbrev ma_L (n : Int) : ma_V := .inr (.inl n)
abbrev ma_Rf (k : Nat) (r : Int) : ma_V := .inr (.inr (.inl (k, r)))
abbrev ma_D (b : UInt64) : ma_V := .inr (.inr (.inr (.inl b)))
abbrev ma_F (b : UInt32) : ma_V := .inr (.inr (.inr (.inr (.inl b))))
abbrev ma_X (e : Nat) : ma_V := .inr (.inr (.inr (.inr (.inr (.inl e)))))
abbrev ma_U : ma_V := .inr (.inr (.inr (.inr (.inr (.inr ())))))
/-- memory: cell, row, place -/
abbrev ma_M := Nat → Int → Int → Int
/-- a method's end: an answer or none, or the number of a thrown class -/
abbrev ma_R := Option ma_V ⊕ Nat
/-- what a call may rely on: it comes to an end that the last argument holds of -/
abbrev ma_O := Nat → List ma_V → ma_M → (ma_R → ma_M → Prop) → Prop
def ma_c2 : ma_V → Bool
  | .inr (.inl _) => true
  | .inr (.inr (.inr (.inl _))) => true
  | _ => false
def ma_up (μ : ma_M) (k : Nat) (r i v : Int) : ma_M := fun k' r' i' => if k' = k ∧ r' = r ∧ i' = i then v else μ k' r' i'
def ma_cpy (μ : ma_M) (k1 : Nat) (r1 sp : Int) (k2 : Nat) (r2 dp n : Int) : ma_M := fun k' r' i' => if k' = k2 ∧ r' = r2 ∧ dp ≤ i' ∧ i' < dp + n then μ k1 r1 (sp + (i' - dp)) else μ k' r' i'
def ma_wI (n : Int) : Int := Int.bmod n 4294967296
def ma_wL (n : Int) : Int := Int.bmod n 18446744073709551616
def ma_and (x y : Int) : Int := (Int32.ofInt x &&& Int32.ofInt y).toInt
def ma_or (x y : Int) : Int := (Int32.ofInt x ||| Int32.ofInt y).toInt
def ma_xor (x y : Int) : Int := (Int32.ofInt x ^^^ Int32.ofInt y).toInt
def ma_shl (x y : Int) : Int := (Int32.ofInt x <<< (Int32.ofInt y &&& 31)).toInt
def ma_shr (x y : Int) : Int := (Int32.ofInt x >>> (Int32.ofInt y &&& 31)).toInt
def ma_ushr (x y : Int) : Int := (((Int32.ofInt x).toUInt32 >>> ((Int32.ofInt y).toUInt32 &&& Int32.toUInt32 31)).toInt32).toInt
def ma_land (x y : Int) : Int := (Int64.ofInt x &&& Int64.ofInt y).toInt
def ma_lor (x y : Int) : Int := (Int64.ofInt x ||| Int64.ofInt y).toInt
def ma_lxor (x y : Int) : Int := (Int64.ofInt x ^^^ Int64.ofInt y).toInt
def ma_lshl (x y : Int) : Int := (Int64.ofInt x <<< ((Int32.ofInt y).toInt64 &&& 63)).toInt
def ma_lshr (x y : Int) : Int := (Int64.ofInt x >>> ((Int32.ofInt y).toInt64 &&& 63)).toInt
def ma_lushr (x y : Int) : Int := (((Int64.ofInt x).toUInt64 >>> ((Int32.ofInt y).toInt64.toUInt64 &&& Int64.toUInt64 63)).toInt64).toInt
def ma_st1 : List ma_V → Nat → ma_V → List ma_V
  | [], _, _ => []
  | _ :: ls, 0, v => v :: ls
  | x :: ls, 1, v => (match ma_c2 x with | true => ma_U | false => x) :: ma_st1 ls 0 v
  | x :: ls, n + 2, v => x :: ma_st1 ls (n + 1) v
def ma_st2 : List ma_V → Nat → ma_V → List ma_V
  | _ :: _ :: ls, 0, v => v :: ma_U :: ls
  | x :: ls, 1, v => (match ma_c2 x with | true => ma_U | false => x) :: ma_st2 ls 0 v
  | x :: ls, n + 2, v => x :: ma_st2 ls (n + 1) v
  | _, _, _ => []
/-- the dead locals are forgotten -/
def ma_msk : List Bool → List ma_V → List ma_V
  | true :: bs, v :: ls => v :: ma_msk bs ls
  | false :: bs, _ :: ls => ma_U :: ma_msk bs ls
  | _, _ => []
/-- the arguments of a call: the n topmost, in their order; and what is left -/
def ma_pop : Nat → List ma_V → List ma_V → Option (List ma_V × List ma_V)
  | 0, st, acc => some (acc, st)
  | n + 1, v :: st, acc => ma_pop n st (v :: acc)
  | _ + 1, [], _ => none
def ma_slots : List ma_V → List ma_V
  | [] => []
  | v :: vs => match ma_c2 v with | true => v :: ma_U :: ma_slots vs | false => v :: ma_slots vs
def ma_entry (n : Nat) (as : List ma_V) : List ma_V := ma_slots as ++ List.replicate (n - (ma_slots as).length) ma_U
def ma_r32 (n : Int) : Prop := -2147483648 ≤ n ∧ n < 2147483648
/-- what lies on the stack, by kinds -/
def ma_pI (st : List ma_V) (f : Int → List ma_V → Prop) : Prop := match st with | .inl n :: st => f n st | _ => False
def ma_pL (st : List ma_V) (f : Int → List ma_V → Prop) : Prop := match st with | .inr (.inl n) :: st => f n st | _ => False
def ma_pR (st : List ma_V) (f : Nat → Int → List ma_V → Prop) : Prop := match st with | .inr (.inr (.inl a)) :: st => f a.1 a.2 st | _ => False
def ma_pD (st : List ma_V) (f : UInt64 → List ma_V → Prop) : Prop := match st with | .inr (.inr (.inr (.inl n))) :: st => f n st | _ => False
def ma_pF (st : List ma_V) (f : UInt32 → List ma_V → Prop) : Prop := match st with | .inr (.inr (.inr (.inr (.inl n)))) :: st => f n st | _ => False
def ma_pA (st : List ma_V) (f : ma_V → List ma_V → Prop) : Prop := match st with | v :: st => ma_c2 v = false ∧ v ≠ ma_U ∧ f v st | _ => False
def ma_p0 (st : List ma_V) (f : Prop) : Prop := match st with | [] => f | _ => False
def ma_gI (v : ma_V) (f : Int → Prop) : Prop := match v with | .inl n => f n | _ => False
def ma_gL (v : ma_V) (f : Int → Prop) : Prop := match v with | .inr (.inl n) => f n | _ => False
def ma_gR (v : ma_V) (f : Nat → Int → Prop) : Prop := match v with | .inr (.inr (.inl a)) => f a.1 a.2 | _ => False
def ma_gD (v : ma_V) (f : UInt64 → Prop) : Prop := match v with | .inr (.inr (.inr (.inl n))) => f n | _ => False
def ma_gF (v : ma_V) (f : UInt32 → Prop) : Prop := match v with | .inr (.inr (.inr (.inr (.inl n)))) => f n | _ => False
def ma_cmp (c : Jvm.ClassFile.Cond) (x y : Int) : Prop := match c with
  | .eq => x = y
  | .ne => ¬ x = y
  | .lt => x < y
  | .ge => y ≤ x
  | .gt => y < x
  | .le => x ≤ y
/-- which handler takes an exception: from, to, handler, class -/
def ma_catch : List (Nat × Nat × Nat × Nat) → Nat → Nat → Option Nat
  | [], _, _ => none
  | (f, t, h, c) :: hh, pc, e => if f ≤ pc ∧ pc < t ∧ c = e then some h else ma_catch hh pc e
def ma_tgt (pc : Nat) (off : Int) : Nat := ((pc : Int) + off).toNat
/-- an instruction: its length, itself, two numbers that the tables say of it -/
abbrev ma_AI := Nat × Instr × Nat × Int
/-- what a body knows: the script's length, its handlers, the kind of its answer (0 none, 1 int, 2 boolean, 3 char, 4 long, 5 float, 6 double), how many cells it may make -/
abbrev ma_E := Nat × List (Nat × Nat × Nat × Nat) × Nat × Nat
/-- a cell's length: the script's is LS -/
def ma_len (LS k : Nat) : Nat := if k = 0 then LS else (ma_ck k).2.1
/-- a place of an array -/
def ma_in (LS k : Nat) (i : Int) : Prop := 0 ≤ i ∧ i < (ma_len LS k : Int)
def ma_resI (n : Nat) (v : Int) : Prop := n = 1 ∨ (n = 2 ∧ (v = 0 ∨ v = 1)) ∨ (n = 3 ∧ 0 ≤ v ∧ v < 65536)
abbrev ma_K := List ma_V → List ma_V → Nat → ma_M → Prop
abbrev ma_J := Nat → List ma_V → List ma_V → Nat → ma_M → Prop
abbrev ma_Dn := ma_R → Nat → ma_M → Prop
/-- behind a call -/
def ma_cont (E : ma_E) (pc : Nat) (ls rest : List ma_V) (k : Nat) (K : ma_K) (J : ma_J) (D : ma_Dn) (r : ma_R) (μ' : ma_M) : Prop := match r with
  | .inl none => K ls rest k μ'
  | .inl (some v) => K ls (v :: rest) k μ'
  | .inr e => match ma_catch E.2.1 pc e with
    | some h => J h ls [ma_X e] k μ'
    | none => D (.inr e) k μ'
/-- how many words lie on the stack -/
def ma_w8 : List ma_V → Nat
  | [] => 0
  | .inl _ :: vs => 1 + ma_w8 vs
  | .inr (.inr (.inl _)) :: vs => 1 + ma_w8 vs
  | _ :: vs => 2 + ma_w8 vs
def ma_call (O : ma_O) (E : ma_E) (pc : Nat) (ls : List ma_V) (y : Nat) (as rest : List ma_V) (k : Nat) (μ : ma_M) (K : ma_K) (J : ma_J) (D : ma_Dn) : Prop :=
  ma_w8 rest ≤ 8 ∧ k + ma_wc y ≤ E.2.2.2 ∧ O y as μ (ma_cont E pc ls rest (k + ma_wc y) K J D)
def ma_step (O : ma_O) (E : ma_E) (ins : Instr) (p : Nat) (q : Int) (pc : Nat) (ls st : List ma_V) (k : Nat) (μ : ma_M) (K : ma_K) (J : ma_J) (D : ma_Dn) : Prop :=
  match ins with
  | .iload_n i => ma_gI (ls.getD i.val ma_U) fun n => K ls (ma_I n :: st) k μ
  | .iload i => ma_gI (ls.getD i ma_U) fun n => K ls (ma_I n :: st) k μ
  | .lload_n i => ma_gL (ls.getD i.val ma_U) fun n => K ls (ma_L n :: st) k μ
  | .lload i => ma_gL (ls.getD i ma_U) fun n => K ls (ma_L n :: st) k μ
  | .aload_n i => ma_gR (ls.getD i.val ma_U) fun a r => K ls (ma_Rf a r :: st) k μ
  | .aload i => ma_gR (ls.getD i ma_U) fun a r => K ls (ma_Rf a r :: st) k μ
  | .dload_n i => ma_gD (ls.getD i.val ma_U) fun b => K ls (ma_D b :: st) k μ
  | .dload i => ma_gD (ls.getD i ma_U) fun b => K ls (ma_D b :: st) k μ
  | .fload i => ma_gF (ls.getD i ma_U) fun b => K ls (ma_F b :: st) k μ
  | .istore_n i => ma_pI st fun n st => i.val < ls.length ∧ K (ma_st1 ls i.val (ma_I n)) st k μ
  | .istore i => ma_pI st fun n st => i < ls.length ∧ K (ma_st1 ls i (ma_I n)) st k μ
  | .lstore_n i => ma_pL st fun n st => i.val + 1 < ls.length ∧ K (ma_st2 ls i.val (ma_L n)) st k μ
  | .lstore i => ma_pL st fun n st => i + 1 < ls.length ∧ K (ma_st2 ls i (ma_L n)) st k μ
  | .dstore_n i => ma_pD st fun b st => i.val + 1 < ls.length ∧ K (ma_st2 ls i.val (ma_D b)) st k μ
  | .dstore i => ma_pD st fun b st => i + 1 < ls.length ∧ K (ma_st2 ls i (ma_D b)) st k μ
  | .fstore i => ma_pF st fun b st => i < ls.length ∧ K (ma_st1 ls i (ma_F b)) st k μ
  | .astore_n i => match st with
    | .inr (.inr (.inl a)) :: st => i.val < ls.length ∧ K (ma_st1 ls i.val (ma_Rf a.1 a.2)) st k μ
    | .inr (.inr (.inr (.inr (.inr (.inl e))))) :: st => i.val < ls.length ∧ K (ma_st1 ls i.val (ma_X e)) st k μ
    | _ => False
  | .astore i => match st with
    | .inr (.inr (.inl a)) :: st => i < ls.length ∧ K (ma_st1 ls i (ma_Rf a.1 a.2)) st k μ
    | .inr (.inr (.inr (.inr (.inr (.inl e))))) :: st => i < ls.length ∧ K (ma_st1 ls i (ma_X e)) st k μ
    | _ => False
  | .iconst _ => K ls (ma_I q :: st) k μ
  | .bipush _ => K ls (ma_I q :: st) k μ
  | .sipush _ => K ls (ma_I q :: st) k μ
  | .lconst _ => K ls (ma_L q :: st) k μ
  | .dconst n => K ls (ma_D (if n.val = 0 then 0 else 4607182418800017408) :: st) k μ
  | .fconst n => K ls (ma_F (if n.val = 0 then 0 else if n.val = 1 then 1065353216 else 1073741824) :: st) k μ
  | .ldc _ => if p = 0 then K ls (ma_I q :: st) k μ else K ls (ma_F (UInt32.ofNat q.toNat) :: st) k μ
  | .ldc_w _ => if p = 0 then K ls (ma_I q :: st) k μ else K ls (ma_F (UInt32.ofNat q.toNat) :: st) k μ
  | .ldc2_w _ => if p = 0 then K ls (ma_L q :: st) k μ else K ls (ma_D (UInt64.ofNat q.toNat) :: st) k μ
  | .iadd => ma_pI st fun y st => ma_pI st fun x st => if p = 1 then K ls (ma_I (ma_wI (x + y)) :: st) k μ else ma_r32 (x + y) ∧ K ls (ma_I (x + y) :: st) k μ
  | .isub => ma_pI st fun y st => ma_pI st fun x st => ma_r32 (x - y) ∧ K ls (ma_I (x - y) :: st) k μ
  | .imul => ma_pI st fun y st => ma_pI st fun x st => if p = 1 then K ls (ma_I (ma_wI (x * y)) :: st) k μ else ma_r32 (x * y) ∧ K ls (ma_I (x * y) :: st) k μ
  | .idiv => ma_pI st fun y st => ma_pI st fun x st => y ≠ 0 ∧ ma_r32 (x.tdiv y) ∧ K ls (ma_I (x.tdiv y) :: st) k μ
  | .irem => ma_pI st fun y st => ma_pI st fun x st => y ≠ 0 ∧ K ls (ma_I (x.tmod y) :: st) k μ
  | .iand => ma_pI st fun y st => ma_pI st fun x st => K ls (ma_I (ma_and x y) :: st) k μ
  | .ior => ma_pI st fun y st => ma_pI st fun x st => K ls (ma_I (ma_or x y) :: st) k μ
  | .ixor => ma_pI st fun y st => ma_pI st fun x st => K ls (ma_I (ma_xor x y) :: st) k μ
  | .ishl => ma_pI st fun y st => ma_pI st fun x st => K ls (ma_I (ma_shl x y) :: st) k μ
  | .ishr => ma_pI st fun y st => ma_pI st fun x st => K ls (ma_I (ma_shr x y) :: st) k μ
  | .iushr => ma_pI st fun y st => ma_pI st fun x st => K ls (ma_I (ma_ushr x y) :: st) k μ
  | .ladd => ma_pL st fun y st => ma_pL st fun x st => K ls (ma_L (ma_wL (x + y)) :: st) k μ
  | .lsub => ma_pL st fun y st => ma_pL st fun x st => K ls (ma_L (ma_wL (x - y)) :: st) k μ
  | .lmul => ma_pL st fun y st => ma_pL st fun x st => K ls (ma_L (ma_wL (x * y)) :: st) k μ
  | .ldiv => ma_pL st fun y st => ma_pL st fun x st => y ≠ 0 ∧ K ls (ma_L (ma_wL (x.tdiv y)) :: st) k μ
  | .lrem => ma_pL st fun y st => ma_pL st fun x st => y ≠ 0 ∧ K ls (ma_L (x.tmod y) :: st) k μ
  | .land => ma_pL st fun y st => ma_pL st fun x st => K ls (ma_L (ma_land x y) :: st) k μ
  | .lor => ma_pL st fun y st => ma_pL st fun x st => K ls (ma_L (ma_lor x y) :: st) k μ
  | .lshl => ma_pI st fun y st => ma_pL st fun x st => K ls (ma_L (ma_lshl x y) :: st) k μ
  | .lshr => ma_pI st fun y st => ma_pL st fun x st => K ls (ma_L (ma_lshr x y) :: st) k μ
  | .lushr => ma_pI st fun y st => ma_pL st fun x st => K ls (ma_L (ma_lushr x y) :: st) k μ
  | .i2l => ma_pI st fun x st => K ls (ma_L x :: st) k μ
  | .l2i => ma_pL st fun x st => K ls (ma_I (ma_wI x) :: st) k μ
  | .i2c => ma_pI st fun x st => K ls (ma_I (x % 65536) :: st) k μ
  | .i2d => ma_pI st fun x st => K ls (ma_D (FP.i2d (Int32.ofInt x)) :: st) k μ
  | .i2f => ma_pI st fun x st => K ls (ma_F (FP.i2f (Int32.ofInt x)) :: st) k μ
  | .f2d => ma_pF st fun x st => vf_n64 (FP.f2d x) ∧ K ls (ma_D (FP.f2d x) :: st) k μ
  | .ddiv => ma_pD st fun y st => ma_pD st fun x st => vf_n64 (FP.ddiv x y) ∧ K ls (ma_D (FP.ddiv x y) :: st) k μ
  | .fdiv => ma_pF st fun y st => ma_pF st fun x st => vf_n32 (FP.fdiv x y) ∧ K ls (ma_F (FP.fdiv x y) :: st) k μ
  | .lcmp => ma_pL st fun y st => ma_pL st fun x st => K ls (ma_I (if y < x then 1 else if x = y then 0 else -1) :: st) k μ
  | .dcmp op => ma_pD st fun y st => ma_pD st fun x st => K ls (ma_I (Op.cmpValue (FP.dcmp x y) op).toInt :: st) k μ
  | .fcmp op => ma_pF st fun y st => ma_pF st fun x st => K ls (ma_I (Op.cmpValue (FP.fcmp x y) op).toInt :: st) k μ
  | .dup => ma_pA st fun v st => K ls (v :: v :: st) k μ
  | .pop => ma_pA st fun _ st => K ls st k μ
  | .dup_x1 => ma_pA st fun v st => ma_pA st fun w st => K ls (v :: w :: v :: st) k μ
  | .dup2 => ma_pA st fun v st => ma_pA st fun w st => K ls (v :: w :: v :: w :: st) k μ
  | .iinc i c => ma_gI (ls.getD i ma_U) fun n => ma_r32 (n + c) ∧ K (ma_st1 ls i (ma_I (n + c))) st k μ
  | .goto off => J (ma_tgt pc off) ls st k μ
  | .ifCond c off => ma_pI st fun x st => (ma_cmp c x 0 → J (ma_tgt pc off) ls st k μ) ∧ (¬ ma_cmp c x 0 → K ls st k μ)
  | .if_icmp c off => ma_pI st fun y st => ma_pI st fun x st => (ma_cmp c x y → J (ma_tgt pc off) ls st k μ) ∧ (¬ ma_cmp c x y → K ls st k μ)
  | .tableswitch d lo hi offs => ma_pI st fun x st => ((x < lo ∨ hi < x) → J (ma_tgt pc d) ls st k μ) ∧ (¬ (x < lo ∨ hi < x) → ∃ off, offs[(x - lo).toNat]? = some off ∧ J (ma_tgt pc off) ls st k μ)
  | .getfield _ => ma_pR st fun a r st => (ma_ck a).1 = 10 + p ∧ (match ma_fk p q.toNat with
      | 0 => K ls (ma_I (μ a r q) :: st) k μ
      | 1 => K ls (ma_L (μ a r q) :: st) k μ
      | 2 => K ls (ma_I (μ a r q) :: st) k μ
      | 3 => K ls (ma_Rf (ma_rf a q.toNat) 0 :: st) k μ
      | 4 => K ls (ma_Rf (μ a r q).toNat 0 :: st) k μ
      | _ => False)
  | .putfield _ => match st with
    | .inl v :: .inr (.inr (.inl a)) :: st => (ma_ck a.1).1 = 10 + p ∧ (ma_fk p q.toNat = 0 ∨ (ma_fk p q.toNat = 2 ∧ (v = 0 ∨ v = 1))) ∧ K ls st k (ma_up μ a.1 a.2 q v)
    | .inr (.inl v) :: .inr (.inr (.inl a)) :: st => (ma_ck a.1).1 = 10 + p ∧ ma_fk p q.toNat = 1 ∧ K ls st k (ma_up μ a.1 a.2 q v)
    | .inr (.inr (.inl b)) :: .inr (.inr (.inl a)) :: st => (ma_ck a.1).1 = 10 + p ∧ ma_fk p q.toNat = 4 ∧ (ma_ck b.1).1 = 2 ∧ b.2 = 0 ∧ K ls st k (ma_up μ a.1 a.2 q b.1)
    | _ => False
  | .getstatic _ => K ls (ma_Rf 1 0 :: st) k μ
  | .arraylength => ma_pR st fun a _ st => ((ma_ck a).1 ≤ 4 ∨ (ma_ck a).1 = 8) ∧ K ls (ma_I (ma_len E.1 a : Int) :: st) k μ
  | .iaload => ma_pI st fun i st => ma_pR st fun a r st => ma_in E.1 a i ∧ (((ma_ck a).1 = 0 ∨ (ma_ck a).1 = 7) ∧ K ls (ma_I (μ a r i) :: st) k μ ∨ (ma_ck a).1 = 8 ∧ (ma_r32 (μ a r i) → K ls (ma_I (μ a r i) :: st) k μ))
  | .laload => ma_pI st fun i st => ma_pR st fun a r st => ma_in E.1 a i ∧ (ma_ck a).1 = 1 ∧ K ls (ma_L (μ a r i) :: st) k μ
  | .baload => ma_pI st fun i st => ma_pR st fun a r st => ma_in E.1 a i ∧ (ma_ck a).1 = 2 ∧ K ls (ma_I (μ a r i) :: st) k μ
  | .caload => ma_pI st fun i st => ma_pR st fun a r st => ma_in E.1 a i ∧ (ma_ck a).1 = 3 ∧ K ls (ma_I (μ a r i) :: st) k μ
  | .daload => ma_pI st fun i st => ma_pR st fun a r st => ma_in E.1 a i ∧ (ma_ck a).1 = 4 ∧ K ls (ma_D (UInt64.ofNat (μ a r i).toNat) :: st) k μ
  | .aaload => ma_pI st fun i st => ma_pR st fun a _ st => ma_in E.1 a i ∧ ((ma_ck a).1 = 5 ∨ (ma_ck a).1 = 6) ∧ K ls (ma_Rf (a + 1) i :: st) k μ
  | .iastore => ma_pI st fun v st => ma_pI st fun i st => ma_pR st fun a r st => ma_in E.1 a i ∧ (ma_ck a).1 = 0 ∧ K ls st k (ma_up μ a r i v)
  | .lastore => ma_pL st fun v st => ma_pI st fun i st => ma_pR st fun a r st => ma_in E.1 a i ∧ (ma_ck a).1 = 1 ∧ K ls st k (ma_up μ a r i v)
  | .bastore => ma_pI st fun v st => ma_pI st fun i st => ma_pR st fun a r st => ma_in E.1 a i ∧ (ma_ck a).1 = 2 ∧ (v = 0 ∨ v = 1) ∧ K ls st k (ma_up μ a r i v)
  | .castore => ma_pI st fun v st => ma_pI st fun i st => ma_pR st fun a r st => ma_in E.1 a i ∧ (ma_ck a).1 = 3 ∧ (0 ≤ v ∧ v < 65536) ∧ K ls st k (ma_up μ a r i v)
  | .dastore => ma_pD st fun v st => ma_pI st fun i st => ma_pR st fun a r st => ma_in E.1 a i ∧ (ma_ck a).1 = 4 ∧ K ls st k (ma_up μ a r i (v.toNat : Int))
  | .invokevirtual _ => match ma_pop (ma_na p) st [] with
    | some (as, .inr (.inr (.inl a)) :: rest) => (ma_ck a.1).1 = 10 + q.toNat ∧ ma_call O E pc ls p (ma_Rf a.1 a.2 :: as) rest k μ K J D
    | _ => False
  | .invokestatic _ => if p = 10002 then ma_pI st fun y st => ma_pI st fun x st => st.length ≤ 4 ∧ k ≤ E.2.2.2 ∧ K ls (ma_I (if x < y then y else x) :: st) k μ
    else if p = 10003 then ma_pI st fun y st => ma_pI st fun x st => st.length ≤ 4 ∧ k ≤ E.2.2.2 ∧ K ls (ma_I (if y < x then y else x) :: st) k μ
    else if p = 10004 then ma_pD st fun y st => ma_pD st fun x st => st.length ≤ 4 ∧ k ≤ E.2.2.2 ∧ Op.cmpValue (FP.dcmp x x) .l = 0 ∧ Op.cmpValue (FP.dcmp y y) .l = 0 ∧ Op.cmpValue (FP.dcmp x 0) .l ≠ 0 ∧ K ls (ma_D (if Op.cmpValue (FP.dcmp x y) .l < 0 then y else x) :: st) k μ
    else if p = 10000 then match st with
    | .inl n :: .inl dp :: .inr (.inr (.inl b)) :: .inl sp :: .inr (.inr (.inl a)) :: rest => rest.length ≤ 4 ∧ (ma_ck a.1).1 = 0 ∧ (ma_ck b.1).1 = 0 ∧ a.1 ≠ b.1 ∧ 0 ≤ n ∧ 0 ≤ sp ∧ 0 ≤ dp ∧ sp + n ≤ (ma_ck a.1).2.1 ∧ dp + n ≤ (ma_ck b.1).2.1 ∧ K ls rest k (ma_cpy μ a.1 a.2 sp b.1 b.2 dp n)
    | _ => False
    else match ma_pop (ma_na p) st [] with
    | some (as, rest) => ma_call O E pc ls p as rest k μ K J D
    | _ => False
  | .athrow => ma_p0 st (E.2.1 = [] ∧ k + 1 ≤ E.2.2.2 ∧ D (.inr p) (k + 1) μ)
  | .ireturn => ma_pI st fun v st => ma_p0 st (ma_resI E.2.2.1 v ∧ D (.inl (some (ma_I v))) k μ)
  | .lreturn => ma_pL st fun v st => ma_p0 st (E.2.2.1 = 4 ∧ D (.inl (some (ma_L v))) k μ)
  | .freturn => ma_pF st fun v st => ma_p0 st (E.2.2.1 = 5 ∧ D (.inl (some (ma_F v))) k μ)
  | .dreturn => ma_pD st fun v st => ma_p0 st (E.2.2.1 = 6 ∧ D (.inl (some (ma_D v))) k μ)
  | .return_ => ma_p0 st (E.2.2.1 = 0 ∧ D (.inl none) k μ)
  | _ => False
def ma_den (O : ma_O) (E : ma_E) : List ma_AI → Nat → List ma_V → List ma_V → Nat → ma_M → ma_J → ma_Dn → Prop
  | [], pc, ls, st, k, μ, J, _ => J pc ls st k μ
  | a :: cs, pc, ls, st, k, μ, J, D => ma_step O E a.2.1 a.2.2.1 a.2.2.2 pc ls st k μ (fun ls' st' k' μ' => ma_den O E cs (pc + a.1) ls' st' k' μ' J D) J D
/-- the blocks of a body, by where they begin: the locals that live there, and the instructions -/
abbrev ma_B := Nat → Option (List Bool × List ma_AI)
/-- what is closed under the blocks of a body -/
def ma_cl (O : ma_O) (E : ma_E) (bl : ma_B) (D : ma_Dn) (R : ma_J) : Prop := ∀ (pc : Nat) (b : List Bool × List ma_AI) (ls st : List ma_V) (k : Nat) (μ : ma_M), bl pc = some b → ma_den O E b.2 pc (ma_msk b.1 ls) st k μ R D → R pc ls st k μ
/-- the run of a body: in everything that is closed under its blocks -/
def ma_run (O : ma_O) (E : ma_E) (bl : ma_B) (D : ma_Dn) (pc : Nat) (ls st : List ma_V) (k : Nat) (μ : ma_M) : Prop := ∀ R : ma_J, ma_cl O E bl D R → R pc ls st k μ
