/-! THE SMALL MACHINE: one frame's instructions over numbers, with a memory by cells; its calls go to a relation O -/
abbrev ma_V := Int ⊕ Int ⊕ (Nat × Int) ⊕ UInt64 ⊕ UInt32 ⊕ Nat ⊕ Unit
abbrev ma_I (n : Int) : ma_V := .inl n
abbrev ma_L (n : Int) : ma_V := .inr (.inl n)
abbrev ma_Rf (k : Nat) (r : Int) : ma_V := .inr (.inr (.inl (k, r)))
abbrev ma_D (b : UInt64) : ma_V := .inr (.inr (.inr (.inl b)))
abbrev ma_F (b : UInt32) : ma_V := .inr (.inr (.inr (.inr (.inl b))))
abbrev ma_X (e : Nat) : ma_V := .inr (.inr (.inr (.inr (.inr (.inl e)))))
abbrev ma_U : ma_V := .inr (.inr (.inr (.inr (.inr (.inr ())))))
/-- memory: cell, row, place -/
abbrev ma_M := Nat → Int → Int → Int
/-- a method's end: an answer or none, or the number of a thrown class -/
abbrev ma_R := Option ma_V ⊕ Nat
abbrev ma_O := Nat → List ma_V → ma_M → ma_R → ma_M → Prop
def ma_c2 : ma_V → Bool
  | .inr (.inl _) => true
  | .inr (.inr (.inr (.inl _))) => true
  | _ => false
def ma_up (μ : ma_M) (k : Nat) (r i v : Int) : ma_M := fun k' r' i' => if k' = k ∧ r' = r ∧ i' = i then v else μ k' r' i'
def ma_cpy (μ : ma_M) (k1 : Nat) (r1 sp : Int) (k2 : Nat) (r2 dp n : Int) : ma_M := fun k' r' i' => if k' = k2 ∧ r' = r2 ∧ dp ≤ i' ∧ i' < dp + n then μ k1 r1 (sp + (i' - dp)) else μ k' r' i'
def ma_wI (n : Int) : Int := Int.bmod n 4294967296
def ma_wL (n : Int) : Int := Int.bmod n 18446744073709551616
def ma_and (x y : Int) : Int := (Int32.ofInt x &&& Int32.ofInt y).toInt
def ma_or (x y : Int) : Int := (Int32.ofInt x ||| Int32.ofInt y).toInt
def ma_xor (x y : Int) : Int := (Int32.ofInt x ^^^ Int32.ofInt y).toInt
def ma_shl (x y : Int) : Int := (Int32.ofInt x <<< Int32.ofInt y).toInt
def ma_shr (x y : Int) : Int := (Int32.ofInt x >>> Int32.ofInt y).toInt
def ma_ushr (x y : Int) : Int := (((Int32.ofInt x).toUInt32 >>> ((Int32.ofInt y).toUInt32 &&& Int32.toUInt32 31)).toInt32).toInt
def ma_land (x y : Int) : Int := (Int64.ofInt x &&& Int64.ofInt y).toInt
def ma_lor (x y : Int) : Int := (Int64.ofInt x ||| Int64.ofInt y).toInt
def ma_lxor (x y : Int) : Int := (Int64.ofInt x ^^^ Int64.ofInt y).toInt
def ma_lshl (x y : Int) : Int := (Int64.ofInt x <<< ((Int32.ofInt y).toInt64 &&& 63)).toInt
def ma_lshr (x y : Int) : Int := (Int64.ofInt x >>> ((Int32.ofInt y).toInt64 &&& 63)).toInt
def ma_lushr (x y : Int) : Int := (((Int64.ofInt x).toUInt64 >>> ((Int32.ofInt y).toInt64.toUInt64 &&& Int64.toUInt64 63)).toInt64).toInt
/-- the larger of two doubles, where the first is a number and not zero -/
def ma_dmax (x _y : UInt64) : Prop := Op.cmpValue (FP.dcmp x x) .l = 0 ∧ Op.cmpValue (FP.dcmp x 0) .l ≠ 0
def ma_st1 : List ma_V → Nat → ma_V → List ma_V
  | [], _, _ => []
  | _ :: ls, 0, v => v :: ls
  | x :: ls, 1, v => (match ma_c2 x with | true => ma_U | false => x) :: ma_st1 ls 0 v
  | x :: ls, n + 2, v => x :: ma_st1 ls (n + 1) v
def ma_st2 : List ma_V → Nat → ma_V → List ma_V
  | _ :: _ :: ls, 0, v => v :: ma_U :: ls
  | x :: ls, 1, v => (match ma_c2 x with | true => ma_U | false => x) :: ma_st2 ls 0 v
  | x :: ls, n + 2, v => x :: ma_st2 ls (n + 1) v
  | _, _, _ => []
/-- the dead locals are forgotten -/
def ma_msk : List Bool → List ma_V → List ma_V
  | true :: bs, v :: ls => v :: ma_msk bs ls
  | false :: bs, _ :: ls => ma_U :: ma_msk bs ls
  | _, _ => []
/-- the arguments of a call: the n topmost, in their order; and what is left -/
def ma_pop : Nat → List ma_V → List ma_V → Option (List ma_V × List ma_V)
  | 0, st, acc => some (acc, st)
  | n + 1, v :: st, acc => ma_pop n st (v :: acc)
  | _ + 1, [], _ => none
def ma_slots : List ma_V → List ma_V
  | [] => []
  | v :: vs => match ma_c2 v with | true => v :: ma_U :: ma_slots vs | false => v :: ma_slots vs
def ma_entry (n : Nat) (as : List ma_V) : List ma_V := ma_slots as ++ List.replicate (n - (ma_slots as).length) ma_U
def ma_cmp (c : Jvm.ClassFile.Cond) (x y : Int) : Prop := match c with
  | .eq => x = y
  | .ne => ¬ x = y
  | .lt => x < y
  | .ge => y ≤ x
  | .gt => y < x
  | .le => x ≤ y
/-- which handler takes an exception: from, to, handler, class -/
def ma_catch : List (Nat × Nat × Nat × Nat) → Nat → Nat → Option Nat
  | [], _, _ => none
  | (f, t, h, c) :: hh, pc, e => if f ≤ pc ∧ pc < t ∧ c = e then some h else ma_catch hh pc e
def ma_tgt (pc : Nat) (off : Int) : Nat := ((pc : Int) + off).toNat
/-- an instruction: its length, itself, two numbers that the tables say of it -/
abbrev ma_AI := Nat × Instr × Nat × Int
/-- what a body knows: the script's length, its handlers, the kind of its answer (0 none, 1 int, 2 boolean, 3 char, 4 long, 5 float, 6 double), how many cells it may make -/
abbrev ma_E := Nat × List (Nat × Nat × Nat × Nat) × Nat × Nat
/-- a cell's length: the script's is LS -/
def ma_len (LS k : Nat) : Nat := if k = 0 then LS else (ma_ck k).2.1
/-- a place of an array -/
def ma_in (LS k : Nat) (i : Int) : Prop := 0 ≤ i ∧ i < (ma_len LS k : Int)
def ma_res (n : Nat) (r : Option ma_V) : Prop := match n, r with
  | 0, none => True
  | 1, some (.inl _) => True
  | 2, some (.inl v) => v = 0 ∨ v = 1
  | 3, some (.inl v) => 0 ≤ v ∧ v < 65536
  | 4, some (.inr (.inl _)) => True
  | 5, some (.inr (.inr (.inr (.inr (.inl _))))) => True
  | 6, some (.inr (.inr (.inr (.inl _)))) => True
  | _, _ => False
def ma_call (O : ma_O) (E : ma_E) (pc : Nat) (ls : List ma_V) (y : Nat) (as rest : List ma_V) (k : Nat) (μ : ma_M) (K : List ma_V → List ma_V → Nat → ma_M → Prop) (J : Nat → List ma_V → List ma_V → Nat → ma_M → Prop) (D : ma_R → Nat → ma_M → Prop) : Prop :=
  rest.length ≤ 4 ∧ ∃ (r : ma_R) (μ' : ma_M), O y as μ r μ' ∧ match r with
    | .inl none => k + ma_wc y ≤ E.2.2.2 ∧ K ls rest (k + ma_wc y) μ'
    | .inl (some v) => k + ma_wc y ≤ E.2.2.2 ∧ K ls (v :: rest) (k + ma_wc y) μ'
    | .inr e => k + 1 ≤ E.2.2.2 ∧ match ma_catch E.2.1 pc e with
      | some h => J h ls [ma_X e] (k + 1) μ'
      | none => D (.inr e) (k + 1) μ'
def ma_step (O : ma_O) (E : ma_E) (len : Nat) (ins : Instr) (p : Nat) (q : Int) (pc : Nat) (ls st : List ma_V) (k : Nat) (μ : ma_M) (K : List ma_V → List ma_V → Nat → ma_M → Prop) (J : Nat → List ma_V → List ma_V → Nat → ma_M → Prop) (D : ma_R → Nat → ma_M → Prop) : Prop :=
  match ins with
  | .iload_n i => (match ls.getD i.val ma_U with | .inl n => K ls (ma_I n :: st) k μ | _ => False)
  | .iload i => (match ls.getD i ma_U with | .inl n => K ls (ma_I n :: st) k μ | _ => False)
  | .lload_n i => (match ls.getD i.val ma_U with | .inr (.inl n) => K ls (ma_L n :: st) k μ | _ => False)
  | .lload i => (match ls.getD i ma_U with | .inr (.inl n) => K ls (ma_L n :: st) k μ | _ => False)
  | .aload_n i => (match ls.getD i.val ma_U with | .inr (.inr (.inl a)) => K ls (ma_Rf a.1 a.2 :: st) k μ | _ => False)
  | .aload i => (match ls.getD i ma_U with | .inr (.inr (.inl a)) => K ls (ma_Rf a.1 a.2 :: st) k μ | _ => False)
  | .dload_n i => (match ls.getD i.val ma_U with | .inr (.inr (.inr (.inl b))) => K ls (ma_D b :: st) k μ | _ => False)
  | .dload i => (match ls.getD i ma_U with | .inr (.inr (.inr (.inl b))) => K ls (ma_D b :: st) k μ | _ => False)
  | .fload i => (match ls.getD i ma_U with | .inr (.inr (.inr (.inr (.inl b)))) => K ls (ma_F b :: st) k μ | _ => False)
  | .istore_n i => (match st with | .inl n :: st => i.val < ls.length ∧ K (ma_st1 ls i.val (ma_I n)) st k μ | _ => False)
  | .istore i => (match st with | .inl n :: st => i < ls.length ∧ K (ma_st1 ls i (ma_I n)) st k μ | _ => False)
  | .lstore_n i => (match st with | .inr (.inl n) :: st => i.val + 1 < ls.length ∧ K (ma_st2 ls i.val (ma_L n)) st k μ | _ => False)
  | .lstore i => (match st with | .inr (.inl n) :: st => i + 1 < ls.length ∧ K (ma_st2 ls i (ma_L n)) st k μ | _ => False)
  | .dstore_n i => (match st with | .inr (.inr (.inr (.inl b))) :: st => i.val + 1 < ls.length ∧ K (ma_st2 ls i.val (ma_D b)) st k μ | _ => False)
  | .dstore i => (match st with | .inr (.inr (.inr (.inl b))) :: st => i + 1 < ls.length ∧ K (ma_st2 ls i (ma_D b)) st k μ | _ => False)
  | .astore_n i => (match st with
    | .inr (.inr (.inl a)) :: st => i.val < ls.length ∧ K (ma_st1 ls i.val (ma_Rf a.1 a.2)) st k μ
    | .inr (.inr (.inr (.inr (.inr (.inl e))))) :: st => i.val < ls.length ∧ K (ma_st1 ls i.val (ma_X e)) st k μ
    | _ => False)
  | .astore i => (match st with
    | .inr (.inr (.inl a)) :: st => i < ls.length ∧ K (ma_st1 ls i (ma_Rf a.1 a.2)) st k μ
    | .inr (.inr (.inr (.inr (.inr (.inl e))))) :: st => i < ls.length ∧ K (ma_st1 ls i (ma_X e)) st k μ
    | _ => False)
  | .iconst _ => K ls (ma_I q :: st) k μ
  | .bipush _ => K ls (ma_I q :: st) k μ
  | .sipush _ => K ls (ma_I q :: st) k μ
  | .lconst _ => K ls (ma_L q :: st) k μ
  | .dconst n => K ls (ma_D (if n.val = 0 then 0 else 4607182418800017408) :: st) k μ
  | .fconst n => K ls (ma_F (if n.val = 0 then 0 else if n.val = 1 then 1065353216 else 1073741824) :: st) k μ
  | .ldc _ => if p = 0 then K ls (ma_I q :: st) k μ else K ls (ma_F (UInt32.ofNat q.toNat) :: st) k μ
  | .ldc_w _ => K ls (ma_I q :: st) k μ
  | .ldc2_w _ => if p = 0 then K ls (ma_L q :: st) k μ else K ls (ma_D (UInt64.ofNat q.toNat) :: st) k μ
  | .iadd => (match st with | .inl y :: .inl x :: st => K ls (ma_I (ma_wI (x + y)) :: st) k μ | _ => False)
  | .isub => (match st with | .inl y :: .inl x :: st => K ls (ma_I (ma_wI (x - y)) :: st) k μ | _ => False)
  | .imul => (match st with | .inl y :: .inl x :: st => K ls (ma_I (ma_wI (x * y)) :: st) k μ | _ => False)
  | .idiv => (match st with | .inl y :: .inl x :: st => y ≠ 0 ∧ K ls (ma_I (ma_wI (x.tdiv y)) :: st) k μ | _ => False)
  | .irem => (match st with | .inl y :: .inl x :: st => y ≠ 0 ∧ K ls (ma_I (x.tmod y) :: st) k μ | _ => False)
  | .iand => (match st with | .inl y :: .inl x :: st => K ls (ma_I (ma_and x y) :: st) k μ | _ => False)
  | .ior => (match st with | .inl y :: .inl x :: st => K ls (ma_I (ma_or x y) :: st) k μ | _ => False)
  | .ixor => (match st with | .inl y :: .inl x :: st => K ls (ma_I (ma_xor x y) :: st) k μ | _ => False)
  | .ishl => (match st with | .inl y :: .inl x :: st => K ls (ma_I (ma_shl x y) :: st) k μ | _ => False)
  | .ishr => (match st with | .inl y :: .inl x :: st => K ls (ma_I (ma_shr x y) :: st) k μ | _ => False)
  | .iushr => (match st with | .inl y :: .inl x :: st => K ls (ma_I (ma_ushr x y) :: st) k μ | _ => False)
  | .ladd => (match st with | .inr (.inl y) :: .inr (.inl x) :: st => K ls (ma_L (ma_wL (x + y)) :: st) k μ | _ => False)
  | .lsub => (match st with | .inr (.inl y) :: .inr (.inl x) :: st => K ls (ma_L (ma_wL (x - y)) :: st) k μ | _ => False)
  | .lmul => (match st with | .inr (.inl y) :: .inr (.inl x) :: st => K ls (ma_L (ma_wL (x * y)) :: st) k μ | _ => False)
  | .ldiv => (match st with | .inr (.inl y) :: .inr (.inl x) :: st => y ≠ 0 ∧ K ls (ma_L (ma_wL (x.tdiv y)) :: st) k μ | _ => False)
  | .lrem => (match st with | .inr (.inl y) :: .inr (.inl x) :: st => y ≠ 0 ∧ K ls (ma_L (x.tmod y) :: st) k μ | _ => False)
  | .land => (match st with | .inr (.inl y) :: .inr (.inl x) :: st => K ls (ma_L (ma_land x y) :: st) k μ | _ => False)
  | .lor => (match st with | .inr (.inl y) :: .inr (.inl x) :: st => K ls (ma_L (ma_lor x y) :: st) k μ | _ => False)
  | .lshl => (match st with | .inl y :: .inr (.inl x) :: st => K ls (ma_L (ma_lshl x y) :: st) k μ | _ => False)
  | .lshr => (match st with | .inl y :: .inr (.inl x) :: st => K ls (ma_L (ma_lshr x y) :: st) k μ | _ => False)
  | .lushr => (match st with | .inl y :: .inr (.inl x) :: st => K ls (ma_L (ma_lushr x y) :: st) k μ | _ => False)
  | .i2l => (match st with | .inl x :: st => K ls (ma_L x :: st) k μ | _ => False)
  | .l2i => (match st with | .inr (.inl x) :: st => K ls (ma_I (ma_wI x) :: st) k μ | _ => False)
  | .i2c => (match st with | .inl x :: st => K ls (ma_I (x % 65536) :: st) k μ | _ => False)
  | .i2d => (match st with | .inl x :: st => K ls (ma_D (FP.i2d (Int32.ofInt x)) :: st) k μ | _ => False)
  | .i2f => (match st with | .inl x :: st => K ls (ma_F (FP.i2f (Int32.ofInt x)) :: st) k μ | _ => False)
  | .f2d => (match st with | .inr (.inr (.inr (.inr (.inl x)))) :: st => vf_n64 (FP.f2d x) ∧ K ls (ma_D (FP.f2d x) :: st) k μ | _ => False)
  | .ddiv => (match st with | .inr (.inr (.inr (.inl y))) :: .inr (.inr (.inr (.inl x))) :: st => vf_n64 (FP.ddiv x y) ∧ K ls (ma_D (FP.ddiv x y) :: st) k μ | _ => False)
  | .fdiv => (match st with | .inr (.inr (.inr (.inr (.inl y)))) :: .inr (.inr (.inr (.inr (.inl x)))) :: st => vf_n32 (FP.fdiv x y) ∧ K ls (ma_F (FP.fdiv x y) :: st) k μ | _ => False)
  | .lcmp => (match st with | .inr (.inl y) :: .inr (.inl x) :: st => K ls (ma_I (if y < x then 1 else if x = y then 0 else -1) :: st) k μ | _ => False)
  | .dcmp op => (match st with | .inr (.inr (.inr (.inl y))) :: .inr (.inr (.inr (.inl x))) :: st => K ls (ma_I (Op.cmpValue (FP.dcmp x y) op).toInt :: st) k μ | _ => False)
  | .fcmp op => (match st with | .inr (.inr (.inr (.inr (.inl y)))) :: .inr (.inr (.inr (.inr (.inl x)))) :: st => K ls (ma_I (Op.cmpValue (FP.fcmp x y) op).toInt :: st) k μ | _ => False)
  | .dup => (match st with | v :: st => ma_c2 v = false ∧ v ≠ ma_U ∧ K ls (v :: v :: st) k μ | _ => False)
  | .pop => (match st with | v :: st => ma_c2 v = false ∧ v ≠ ma_U ∧ K ls st k μ | _ => False)
  | .dup_x1 => (match st with | v :: w :: st => ma_c2 v = false ∧ ma_c2 w = false ∧ v ≠ ma_U ∧ w ≠ ma_U ∧ K ls (v :: w :: v :: st) k μ | _ => False)
  | .dup2 => (match st with | v :: w :: st => ma_c2 v = false ∧ ma_c2 w = false ∧ v ≠ ma_U ∧ w ≠ ma_U ∧ K ls (v :: w :: v :: w :: st) k μ | _ => False)
  | .iinc i c => (match ls.getD i ma_U with | .inl n => K (ma_st1 ls i (ma_I (ma_wI (n + c)))) st k μ | _ => False)
  | .goto off => J (ma_tgt pc off) ls st k μ
  | .ifCond c off => (match st with | .inl x :: st => (ma_cmp c x 0 → J (ma_tgt pc off) ls st k μ) ∧ (¬ ma_cmp c x 0 → K ls st k μ) | _ => False)
  | .if_icmp c off => (match st with | .inl y :: .inl x :: st => (ma_cmp c x y → J (ma_tgt pc off) ls st k μ) ∧ (¬ ma_cmp c x y → K ls st k μ) | _ => False)
  | .tableswitch d lo hi offs => (match st with | .inl x :: st => ((x < lo ∨ hi < x) → J (ma_tgt pc d) ls st k μ) ∧ (¬ (x < lo ∨ hi < x) → ∃ off, offs[(x - lo).toNat]? = some off ∧ J (ma_tgt pc off) ls st k μ) | _ => False)
  | .getfield _ => (match st with
    | .inr (.inr (.inl a)) :: st => (ma_ck a.1).1 = 10 + p ∧ 0 ≤ q ∧ (match ma_fk p q.toNat with
      | 0 => K ls (ma_I (μ a.1 a.2 q) :: st) k μ
      | 1 => K ls (ma_L (μ a.1 a.2 q) :: st) k μ
      | 2 => K ls (ma_I (μ a.1 a.2 q) :: st) k μ
      | 3 => K ls (ma_Rf (ma_rf a.1 q.toNat) 0 :: st) k μ
      | 4 => K ls (ma_Rf (μ a.1 a.2 q).toNat 0 :: st) k μ
      | _ => False)
    | _ => False)
  | .putfield _ => (match st with
    | .inl v :: .inr (.inr (.inl a)) :: st => (ma_ck a.1).1 = 10 + p ∧ 0 ≤ q ∧ (ma_fk p q.toNat = 0 ∨ (ma_fk p q.toNat = 2 ∧ (v = 0 ∨ v = 1))) ∧ K ls st k (ma_up μ a.1 a.2 q v)
    | .inr (.inl v) :: .inr (.inr (.inl a)) :: st => (ma_ck a.1).1 = 10 + p ∧ 0 ≤ q ∧ ma_fk p q.toNat = 1 ∧ K ls st k (ma_up μ a.1 a.2 q v)
    | .inr (.inr (.inl b)) :: .inr (.inr (.inl a)) :: st => (ma_ck a.1).1 = 10 + p ∧ 0 ≤ q ∧ ma_fk p q.toNat = 4 ∧ (ma_ck b.1).1 = 2 ∧ (ma_ck b.1).2.1 = 36 ∧ b.2 = 0 ∧ K ls st k (ma_up μ a.1 a.2 q b.1)
    | _ => False)
  | .getstatic _ => if p = 1 then K ls (ma_Rf 1 0 :: st) k μ else False
  | .arraylength => (match st with | .inr (.inr (.inl a)) :: st => ((ma_ck a.1).1 = 0 ∨ (ma_ck a.1).1 = 1 ∨ (ma_ck a.1).1 = 8) ∧ K ls (ma_I (ma_len E.1 a.1 : Int) :: st) k μ | _ => False)
  | .iaload => (match st with | .inl i :: .inr (.inr (.inl a)) :: st => ((ma_ck a.1).1 = 0 ∨ (ma_ck a.1).1 = 7 ∨ (ma_ck a.1).1 = 8) ∧ ma_in E.1 a.1 i ∧ K ls (ma_I (μ a.1 a.2 i) :: st) k μ | _ => False)
  | .laload => (match st with | .inl i :: .inr (.inr (.inl a)) :: st => (ma_ck a.1).1 = 1 ∧ ma_in E.1 a.1 i ∧ K ls (ma_L (μ a.1 a.2 i) :: st) k μ | _ => False)
  | .baload => (match st with | .inl i :: .inr (.inr (.inl a)) :: st => (ma_ck a.1).1 = 2 ∧ ma_in E.1 a.1 i ∧ K ls (ma_I (μ a.1 a.2 i) :: st) k μ | _ => False)
  | .caload => (match st with | .inl i :: .inr (.inr (.inl a)) :: st => (ma_ck a.1).1 = 3 ∧ ma_in E.1 a.1 i ∧ K ls (ma_I (μ a.1 a.2 i) :: st) k μ | _ => False)
  | .daload => (match st with | .inl i :: .inr (.inr (.inl a)) :: st => (ma_ck a.1).1 = 4 ∧ ma_in E.1 a.1 i ∧ K ls (ma_D (UInt64.ofNat (μ a.1 a.2 i).toNat) :: st) k μ | _ => False)
  | .aaload => (match st with | .inl i :: .inr (.inr (.inl a)) :: st => ((ma_ck a.1).1 = 5 ∨ (ma_ck a.1).1 = 6) ∧ ma_in E.1 a.1 i ∧ K ls (ma_Rf (a.1 + 1) i :: st) k μ | _ => False)
  | .iastore => (match st with | .inl v :: .inl i :: .inr (.inr (.inl a)) :: st => (ma_ck a.1).1 = 0 ∧ ma_in E.1 a.1 i ∧ K ls st k (ma_up μ a.1 a.2 i v) | _ => False)
  | .lastore => (match st with | .inr (.inl v) :: .inl i :: .inr (.inr (.inl a)) :: st => (ma_ck a.1).1 = 1 ∧ ma_in E.1 a.1 i ∧ K ls st k (ma_up μ a.1 a.2 i v) | _ => False)
  | .bastore => (match st with | .inl v :: .inl i :: .inr (.inr (.inl a)) :: st => (ma_ck a.1).1 = 2 ∧ ma_in E.1 a.1 i ∧ (v = 0 ∨ v = 1) ∧ K ls st k (ma_up μ a.1 a.2 i v) | _ => False)
  | .castore => (match st with | .inl v :: .inl i :: .inr (.inr (.inl a)) :: st => (ma_ck a.1).1 = 3 ∧ ma_in E.1 a.1 i ∧ (0 ≤ v ∧ v < 65536) ∧ K ls st k (ma_up μ a.1 a.2 i v) | _ => False)
  | .dastore => (match st with | .inr (.inr (.inr (.inl v))) :: .inl i :: .inr (.inr (.inl a)) :: st => (ma_ck a.1).1 = 4 ∧ ma_in E.1 a.1 i ∧ K ls st k (ma_up μ a.1 a.2 i (v.toNat : Int)) | _ => False)
  | .invokevirtual _ => (match ma_pop (ma_na p) st [] with
    | some (as, .inr (.inr (.inl a)) :: rest) => (ma_ck a.1).1 = 10 + q.toNat ∧ ma_call O E pc ls p (ma_Rf a.1 a.2 :: as) rest k μ K J D
    | _ => False)
  | .invokestatic _ => if p = 10002 then (match st with | .inl y :: .inl x :: rest => rest.length ≤ 4 ∧ K ls (ma_I (if x < y then y else x) :: rest) k μ | _ => False)
    else if p = 10003 then (match st with | .inl y :: .inl x :: rest => rest.length ≤ 4 ∧ K ls (ma_I (if y < x then y else x) :: rest) k μ | _ => False)
    else if p = 10004 then (match st with | .inr (.inr (.inr (.inl y))) :: .inr (.inr (.inr (.inl x))) :: rest => rest.length ≤ 4 ∧ ma_dmax x y ∧ K ls (ma_D (if Op.cmpValue (FP.dcmp x y) .l < 0 then y else x) :: rest) k μ | _ => False)
    else if p = 10000 then (match st with
    | .inl n :: .inl dp :: .inr (.inr (.inl b)) :: .inl sp :: .inr (.inr (.inl a)) :: rest => rest.length ≤ 4 ∧ (ma_ck a.1).1 = 0 ∧ (ma_ck b.1).1 = 0 ∧ a.1 ≠ b.1 ∧ 0 ≤ n ∧ 0 ≤ sp ∧ 0 ≤ dp ∧ sp + n ≤ (ma_ck a.1).2.1 ∧ dp + n ≤ (ma_ck b.1).2.1 ∧ K ls rest k (ma_cpy μ a.1 a.2 sp b.1 b.2 dp n)
    | _ => False) else (match ma_pop (ma_na p) st [] with
    | some (as, rest) => ma_call O E pc ls p as rest k μ K J D
    | _ => False)
  | .athrow => (match st with | [] => E.2.1 = [] ∧ k + 1 ≤ E.2.2.2 ∧ D (.inr p) (k + 1) μ | _ => False)
  | .ireturn => (match st with | [.inl v] => ma_res E.2.2.1 (some (ma_I v)) ∧ D (.inl (some (ma_I v))) k μ | _ => False)
  | .lreturn => (match st with | [.inr (.inl v)] => ma_res E.2.2.1 (some (ma_L v)) ∧ D (.inl (some (ma_L v))) k μ | _ => False)
  | .freturn => (match st with | [.inr (.inr (.inr (.inr (.inl v))))] => ma_res E.2.2.1 (some (ma_F v)) ∧ D (.inl (some (ma_F v))) k μ | _ => False)
  | .dreturn => (match st with | [.inr (.inr (.inr (.inl v)))] => ma_res E.2.2.1 (some (ma_D v)) ∧ D (.inl (some (ma_D v))) k μ | _ => False)
  | .return_ => (match st with | [] => ma_res E.2.2.1 none ∧ D (.inl none) k μ | _ => False)
  | _ => False
def ma_den (O : ma_O) (E : ma_E) : List ma_AI → Nat → List ma_V → List ma_V → Nat → ma_M → (Nat → List ma_V → List ma_V → Nat → ma_M → Prop) → (ma_R → Nat → ma_M → Prop) → Prop
  | [], pc, ls, st, k, μ, J, _ => J pc ls st k μ
  | a :: cs, pc, ls, st, k, μ, J, D => ma_step O E a.1 a.2.1 a.2.2.1 a.2.2.2 pc ls st k μ (fun ls' st' k' μ' => ma_den O E cs (pc + a.1) ls' st' k' μ' J D) J D
abbrev ma_B := Nat → Option (List Bool × List ma_AI)
def ma_run (O : ma_O) (E : ma_E) (bl : ma_B) (D : ma_R → Nat → ma_M → Prop) : Nat → Nat → List ma_V → List ma_V → Nat → ma_M → Prop
  | 0, _, _, _, _, _ => False
  | n + 1, pc, ls, st, k, μ => ∃ b, bl pc = some b ∧ ma_den O E b.2 pc (ma_msk b.1 ls) st k μ (ma_run O E bl D n) D
