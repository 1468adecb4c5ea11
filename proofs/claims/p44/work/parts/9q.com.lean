/-! THE MACHINE OF THE CONSTRUCTORS: it makes the cells in their order, puts their fields; the programs, from the bytes -/
def co_nas : List Nat := [1, 5, 0, 0, 1, 0, 2, 1, 1, 4, 0]
def co_na (y : Nat) : Nat := co_nas.getD y 0
/-- how many cells are made; how many places in them; which fields have their cell; wireWord, and the count of wires -/
abbrev co_S := Nat × Nat × List (Nat × Nat) × List Int × List Int
abbrev co_AI := Nat × Nat × Instr × Nat × Int
/-- what an instruction leaves: (where it jumps to, locals, stack, state), or an answer -/
abbrev co_O := (Option Nat × List ma_V × List ma_V × co_S) ⊕ (Option ma_V × co_S)
abbrev co_Z := (List ma_V × List ma_V × co_S) ⊕ (Option ma_V × co_S)
abbrev co_C := Nat → List ma_V → co_S → Option (Option ma_V × co_S)
def co_off (k : Nat) : Nat := ma_offs.getD k 0
def co_kos : List Nat → Nat → Nat → Nat
  | [], _, i => i
  | x :: xs, n, i => bif Nat.beq x n && Nat.ble 2 i then i else co_kos xs n (i + 1)
/-- the cell that lies n places behind the first -/
def co_kof (n : Nat) : Nat := co_kos ma_offs n 0
def co_mem (σ : co_S) (k : Nat) (i : Int) : Int := if k = 109 then σ.2.2.2.1.getD i.toNat 0 else if k = 110 then σ.2.2.2.2.getD i.toNat 0 else 0
def co_dyn (f : Nat) : Nat := f + 61
/-- a new array's places are 0 -/
def co_zero (σ : co_S) (k : Nat) : Bool := bif Nat.beq k 109 || Nat.beq k 110 then σ.2.2.2.1.all (fun v => decide (v = 0)) && σ.2.2.2.2.all (fun v => decide (v = 0)) else true
def co_at : ArrayType → Nat
  | .int => 0
  | .long => 1
  | .boolean => 2
  | .char => 3
  | _ => 9
def co_an (t : Nat) : String := "[" ++ (ma_fat t).toString
def co_i32 (n : Int) : Bool := decide (-2147483648 ≤ n ∧ n < 2147483648)
/-- the cell (k, r) is made -/
def co_ok (σ : co_S) (k : Nat) (r : Int) : Bool := decide (2 ≤ k ∧ k < 69 ∧ 0 ≤ r ∧ r < ((ma_ck k).2.2 : Int) ∧ co_off k + r.toNat < σ.1)
def co_new (σ : co_S) (n : Nat) : co_S := (σ.1 + 1, σ.2.1 + n, σ.2.2.1, σ.2.2.2.1, σ.2.2.2.2)
def co_step (call : co_C) (a : co_AI) (ls st : List ma_V) (σ : co_S) : Option co_O := match a with
  | (pc, _, ins, p, q) => match ins with
  | .iload_n i => (match ls.getD i.val ma_U with | .inl n => some (.inl (none, ls, ma_I n :: st, σ)) | _ => none)
  | .iload i => (match ls.getD i ma_U with | .inl n => some (.inl (none, ls, ma_I n :: st, σ)) | _ => none)
  | .aload_n i => (match ls.getD i.val ma_U with | .inr (.inr (.inl a)) => some (.inl (none, ls, ma_Rf a.1 a.2 :: st, σ)) | _ => none)
  | .aload i => (match ls.getD i ma_U with | .inr (.inr (.inl a)) => some (.inl (none, ls, ma_Rf a.1 a.2 :: st, σ)) | _ => none)
  | .istore_n i => (match st with | .inl n :: st => if i.val < ls.length then some (.inl (none, ma_st1 ls i.val (ma_I n), st, σ)) else none | _ => none)
  | .istore i => (match st with | .inl n :: st => if i < ls.length then some (.inl (none, ma_st1 ls i (ma_I n), st, σ)) else none | _ => none)
  | .astore_n i => (match st with | .inr (.inr (.inl a)) :: st => if i.val < ls.length then some (.inl (none, ma_st1 ls i.val (ma_Rf a.1 a.2), st, σ)) else none | _ => none)
  | .astore i => (match st with | .inr (.inr (.inl a)) :: st => if i < ls.length then some (.inl (none, ma_st1 ls i (ma_Rf a.1 a.2), st, σ)) else none | _ => none)
  | .iconst _ => some (.inl (none, ls, ma_I q :: st, σ))
  | .bipush _ => some (.inl (none, ls, ma_I q :: st, σ))
  | .sipush _ => some (.inl (none, ls, ma_I q :: st, σ))
  | .iadd => (match st with | .inl y :: .inl x :: st => bif co_i32 (x + y) then some (.inl (none, ls, ma_I (x + y) :: st, σ)) else none | _ => none)
  | .isub => (match st with | .inl y :: .inl x :: st => bif co_i32 (x - y) then some (.inl (none, ls, ma_I (x - y) :: st, σ)) else none | _ => none)
  | .imul => (match st with | .inl y :: .inl x :: st => bif co_i32 (x * y) then some (.inl (none, ls, ma_I (x * y) :: st, σ)) else none | _ => none)
  | .idiv => (match st with | .inl y :: .inl x :: st => bif co_i32 (x.tdiv y) && !decide (y = 0) then some (.inl (none, ls, ma_I (x.tdiv y) :: st, σ)) else none | _ => none)
  | .irem => (match st with | .inl y :: .inl x :: st => bif !decide (y = 0) then some (.inl (none, ls, ma_I (x.tmod y) :: st, σ)) else none | _ => none)
  | .dup => (match st with | .inl x :: st => some (.inl (none, ls, ma_I x :: ma_I x :: st, σ)) | .inr (.inr (.inl a)) :: st => some (.inl (none, ls, ma_Rf a.1 a.2 :: ma_Rf a.1 a.2 :: st, σ)) | _ => none)
  | .dup2 => (match st with | .inl x :: .inr (.inr (.inl a)) :: st => some (.inl (none, ls, ma_I x :: ma_Rf a.1 a.2 :: ma_I x :: ma_Rf a.1 a.2 :: st, σ)) | _ => none)
  | .iinc i c => (match ls.getD i ma_U with | .inl n => bif co_i32 (n + c) then some (.inl (none, ma_st1 ls i (ma_I (n + c)), st, σ)) else none | _ => none)
  | .goto off => some (.inl (some (ma_tgt pc off), ls, st, σ))
  | .if_icmp .ge off => (match st with | .inl y :: .inl x :: st => bif decide (y ≤ x) then some (.inl (some (ma_tgt pc off), ls, st, σ)) else some (.inl (none, ls, st, σ)) | _ => none)
  | .newarray t => (match st with | .inl n :: st => bif co_i32 n && decide (0 ≤ n ∧ n.toNat < 10000) && (decide (co_off (co_kof σ.1) = σ.1) && (decide (2 ≤ co_kof σ.1 ∧ co_kof σ.1 < 69) && (decide (ma_ck (co_kof σ.1) = (co_at t, n.toNat, 1)) && co_zero σ (co_kof σ.1)))) then some (.inl (none, ls, ma_Rf (co_kof σ.1) 0 :: st, co_new σ n.toNat)) else none | _ => none)
  | .multianewarray _ _ => (match st with | .inl n2 :: .inl n1 :: st => bif co_i32 n1 && (co_i32 n2 && (decide (0 < n1 ∧ 0 ≤ n2 ∧ n1.toNat < 10000 ∧ n2.toNat < 10000) && (decide (co_off (co_kof σ.1) = σ.1 ∧ co_off (co_kof σ.1 + 1) = σ.1 + 1) && (decide (2 ≤ co_kof σ.1 ∧ co_kof σ.1 + 1 < 69) && (decide (ma_ck (co_kof σ.1) = (p, n1.toNat, 1)) && decide (ma_ck (co_kof σ.1 + 1) = (p - 5, n2.toNat, n1.toNat))))))) then some (.inl (none, ls, ma_Rf (co_kof σ.1) 0 :: st, (σ.1 + 1 + n1.toNat, σ.2.1 + n1.toNat + n1.toNat * n2.toNat, σ.2.2))) else none | _ => none)
  | .new _ => bif decide (co_off (co_kof σ.1) = σ.1) && (decide (2 ≤ co_kof σ.1 ∧ co_kof σ.1 < 69) && (decide ((ma_ck (co_kof σ.1)).1 = 10 + p ∧ (ma_ck (co_kof σ.1)).2.2 = 1) && σ.2.2.1.all (fun q => !decide (q.1 = co_kof σ.1)))) then some (.inl (none, ls, ma_Rf (co_kof σ.1) 0 :: st, co_new σ (ma_N p))) else none
  | .putfield _ => (match st with
    | .inr (.inr (.inl b)) :: .inr (.inr (.inl a)) :: st => bif co_ok σ a.1 a.2 && (decide ((ma_ck a.1).1 = 10 + p ∧ a.2 = 0 ∧ b.2 = 0) && (decide (ma_fk p q.toNat = 3 ∧ b.1 = ma_rf a.1 q.toNat) || decide (ma_fk p q.toNat = 4 ∧ b.1 = co_dyn q.toNat))) then some (.inl (none, ls, st, (σ.1, σ.2.1, (a.1, q.toNat) :: σ.2.2.1, σ.2.2.2))) else none
    | .inl v :: .inr (.inr (.inl a)) :: st => bif co_ok σ a.1 a.2 && decide ((ma_ck a.1).1 = 10 + p ∧ v = 0 ∧ ma_fk p q.toNat = 0) then some (.inl (none, ls, st, σ)) else none
    | _ => none)
  | .getfield _ => (match st with
    | .inr (.inr (.inl a)) :: st => bif co_ok σ a.1 a.2 && (decide ((ma_ck a.1).1 = 10 + p ∧ a.2 = 0 ∧ ma_fk p q.toNat = 3) && decide ((a.1, q.toNat) ∈ σ.2.2.1)) then some (.inl (none, ls, ma_Rf (ma_rf a.1 q.toNat) 0 :: st, σ)) else none
    | _ => none)
  | .iaload => (match st with
    | .inl i :: .inr (.inr (.inl a)) :: st => bif co_ok σ a.1 a.2 && (decide ((ma_ck a.1).1 = 0 ∧ 0 ≤ i ∧ i < ((ma_ck a.1).2.1 : Int)) && co_i32 (co_mem σ a.1 i)) then some (.inl (none, ls, ma_I (co_mem σ a.1 i) :: st, σ)) else none
    | _ => none)
  | .iastore => (match st with
    | .inl v :: .inl i :: .inr (.inr (.inl a)) :: st => bif co_ok σ a.1 a.2 && decide ((ma_ck a.1).1 = 0 ∧ 0 ≤ i ∧ i < ((ma_ck a.1).2.1 : Int)) then
        (bif decide (a.1 = 109) && decide (i.toNat < σ.2.2.2.1.length) then some (.inl (none, ls, st, (σ.1, σ.2.1, σ.2.2.1, σ.2.2.2.1.set i.toNat v, σ.2.2.2.2)))
        else bif decide (a.1 = 110) && decide (i.toNat < σ.2.2.2.2.length) then some (.inl (none, ls, st, (σ.1, σ.2.1, σ.2.2.1, σ.2.2.2.1, σ.2.2.2.2.set i.toNat v))) else none) else none
    | _ => none)
  | .invokespecial _ => bif decide (p = 99) then (match st with | .inr (.inr (.inl _)) :: st => bif decide (st.length ≤ 4) then some (.inl (none, ls, st, σ)) else none | _ => none)
    else (match ma_pop (co_na p + 1) st [] with | some (.inr (.inr (.inl a)) :: as, rest) => (bif decide (rest.length ≤ 4) then (match call p (ma_Rf a.1 a.2 :: as) σ with | some (none, σ') => some (.inl (none, ls, rest, σ')) | _ => none) else none) | _ => none)
  | .invokestatic _ => (match ma_pop 1 st [] with | some (as, rest) => (bif decide (rest.length ≤ 4) then (match call p as σ with | some (some v, σ') => some (.inl (none, ls, v :: rest, σ')) | _ => none) else none) | none => none)
  | .return_ => (match st with | [] => some (.inr (none, σ)) | _ => none)
  | .ireturn => (match st with | [.inl n] => some (.inr (some (ma_I n), σ)) | _ => none)
  | _ => none
def co_from (t : Nat) : List co_AI → List co_AI
  | [] => []
  | a :: cs => bif Nat.beq a.1 t then a :: cs else co_from t cs
def co_go (call : co_C) (code : List co_AI) : Nat → List co_AI → List ma_V → List ma_V → co_S → Option co_Z
  | 0, _, _, _, _ => none
  | _ + 1, [], ls, st, σ => some (.inl (ls, st, σ))
  | n + 1, a :: cs, ls, st, σ => match co_step call a ls st σ with
    | some (.inl (none, ls, st, σ)) => co_go call code n cs ls st σ
    | some (.inl (some t, ls, st, σ)) => (match co_from t code with
      | [] => none
      | b :: bs => co_go call code n (b :: bs) ls st σ)
    | some (.inr z) => some (.inr z)
    | none => none
def co_p0 : List co_AI := [(0, 1, .aload_n 0, 0, 0), (1, 3, .invokespecial 3, 99, 0), (4, 1, .aload_n 0, 0, 0), (5, 2, .bipush 48, 0, 48), (7, 2, .newarray .int, 0, 0), (9, 3, .putfield 9, 0, 0), (12, 1, .aload_n 0, 0, 0), (13, 2, .bipush 48, 0, 48), (15, 2, .newarray .int, 0, 0), (17, 3, .putfield 15, 0, 1), (20, 1, .aload_n 0, 0, 0), (21, 2, .bipush 48, 0, 48), (23, 2, .newarray .int, 0, 0), (25, 3, .putfield 18, 0, 2), (28, 1, .aload_n 0, 0, 0), (29, 2, .bipush 48, 0, 48), (31, 2, .newarray .int, 0, 0), (33, 3, .putfield 21, 0, 3), (36, 1, .aload_n 0, 0, 0), (37, 2, .bipush 48, 0, 48), (39, 1, .iconst 4, 0, 4), (40, 4, .multianewarray 24 2, 5, 0), (44, 3, .putfield 26, 0, 4), (47, 1, .aload_n 0, 0, 0), (48, 2, .bipush 48, 0, 48), (50, 2, .newarray .int, 0, 0), (52, 3, .putfield 29, 0, 5), (55, 1, .aload_n 0, 0, 0), (56, 2, .bipush 48, 0, 48), (58, 2, .newarray .boolean, 0, 0), (60, 3, .putfield 32, 0, 6), (63, 1, .aload_n 0, 0, 0), (64, 2, .bipush 48, 0, 48), (66, 2, .newarray .int, 0, 0), (68, 3, .putfield 36, 0, 8), (71, 1, .aload_n 0, 0, 0), (72, 1, .aload_n 1, 0, 0), (73, 3, .putfield 39, 0, 9), (76, 1, .return_, 0, 0)]
def co_p1 : List co_AI := [(0, 1, .aload_n 0, 0, 0), (1, 3, .invokespecial 3, 99, 0), (4, 1, .aload_n 0, 0, 0), (5, 1, .aload_n 1, 0, 0), (6, 3, .putfield 9, 1, 0), (9, 1, .aload_n 0, 0, 0), (10, 1, .aload_n 2, 0, 0), (11, 3, .putfield 15, 1, 1), (14, 1, .aload_n 0, 0, 0), (15, 1, .aload_n 3, 0, 0), (16, 3, .putfield 19, 1, 2), (19, 1, .aload_n 0, 0, 0), (20, 2, .aload 4, 0, 0), (22, 3, .putfield 23, 1, 3), (25, 1, .aload_n 0, 0, 0), (26, 2, .aload 5, 0, 0), (28, 3, .putfield 27, 1, 4), (31, 1, .return_, 0, 0)]
def co_p2 : List co_AI := [(0, 1, .aload_n 0, 0, 0), (1, 3, .invokespecial 3, 99, 0), (4, 1, .aload_n 0, 0, 0), (5, 3, .new 9, 5, 0), (8, 1, .dup, 0, 0), (9, 3, .invokespecial 11, 5, 1), (12, 3, .putfield 12, 2, 0), (15, 1, .aload_n 0, 0, 0), (16, 2, .bipush 6, 0, 6), (18, 2, .newarray .int, 0, 0), (20, 3, .putfield 18, 2, 1), (23, 1, .aload_n 0, 0, 0), (24, 2, .bipush 36, 0, 36), (26, 2, .newarray .int, 0, 0), (28, 3, .putfield 22, 2, 2), (31, 1, .aload_n 0, 0, 0), (32, 2, .bipush 36, 0, 36), (34, 2, .newarray .int, 0, 0), (36, 3, .putfield 25, 2, 4), (39, 1, .aload_n 0, 0, 0), (40, 2, .bipush 36, 0, 36), (42, 2, .newarray .int, 0, 0), (44, 3, .putfield 28, 2, 5), (47, 1, .aload_n 0, 0, 0), (48, 3, .sipush 144, 0, 144), (51, 2, .newarray .int, 0, 0), (53, 3, .putfield 31, 2, 6), (56, 1, .return_, 0, 0)]
def co_p3 : List co_AI := [(0, 1, .aload_n 0, 0, 0), (1, 3, .invokespecial 3, 99, 0), (4, 1, .aload_n 0, 0, 0), (5, 2, .bipush 48, 0, 48), (7, 2, .newarray .char, 0, 0), (9, 3, .putfield 9, 3, 0), (12, 1, .aload_n 0, 0, 0), (13, 2, .bipush 48, 0, 48), (15, 2, .newarray .int, 0, 0), (17, 3, .putfield 15, 3, 1), (20, 1, .aload_n 0, 0, 0), (21, 2, .bipush 48, 0, 48), (23, 2, .newarray .int, 0, 0), (25, 3, .putfield 19, 3, 2), (28, 1, .aload_n 0, 0, 0), (29, 2, .bipush 48, 0, 48), (31, 2, .newarray .int, 0, 0), (33, 3, .putfield 22, 3, 3), (36, 1, .aload_n 0, 0, 0), (37, 2, .bipush 48, 0, 48), (39, 2, .newarray .int, 0, 0), (41, 3, .putfield 25, 3, 4), (44, 1, .aload_n 0, 0, 0), (45, 2, .bipush 48, 0, 48), (47, 2, .newarray .int, 0, 0), (49, 3, .putfield 28, 3, 5), (52, 1, .aload_n 0, 0, 0), (53, 2, .bipush 48, 0, 48), (55, 2, .newarray .int, 0, 0), (57, 3, .putfield 31, 3, 6), (60, 1, .aload_n 0, 0, 0), (61, 2, .bipush 6, 0, 6), (63, 2, .newarray .int, 0, 0), (65, 3, .putfield 34, 3, 7), (68, 1, .aload_n 0, 0, 0), (69, 2, .bipush 8, 0, 8), (71, 2, .newarray .int, 0, 0), (73, 3, .putfield 37, 3, 8), (76, 1, .aload_n 0, 0, 0), (77, 2, .bipush 6, 0, 6), (79, 2, .newarray .int, 0, 0), (81, 3, .putfield 40, 3, 9), (84, 1, .return_, 0, 0)]
def co_p4 : List co_AI := [(0, 1, .aload_n 0, 0, 0), (1, 3, .invokespecial 3, 99, 0), (4, 1, .aload_n 0, 0, 0), (5, 2, .bipush 48, 0, 48), (7, 2, .bipush 7, 0, 7), (9, 4, .multianewarray 9 2, 6, 0), (13, 3, .putfield 11, 4, 0), (16, 1, .aload_n 0, 0, 0), (17, 2, .bipush 48, 0, 48), (19, 2, .bipush 7, 0, 7), (21, 4, .multianewarray 16 2, 5, 0), (25, 3, .putfield 18, 4, 1), (28, 1, .aload_n 0, 0, 0), (29, 2, .bipush 48, 0, 48), (31, 2, .newarray .int, 0, 0), (33, 3, .putfield 21, 4, 2), (36, 1, .aload_n 0, 0, 0), (37, 2, .bipush 48, 0, 48), (39, 2, .newarray .int, 0, 0), (41, 3, .putfield 25, 4, 3), (44, 1, .aload_n 0, 0, 0), (45, 1, .aload_n 1, 0, 0), (46, 3, .putfield 28, 4, 4), (49, 1, .return_, 0, 0)]
def co_p5 : List co_AI := [(0, 1, .aload_n 0, 0, 0), (1, 3, .invokespecial 3, 99, 0), (4, 1, .aload_n 0, 0, 0), (5, 2, .bipush 14, 0, 14), (7, 2, .bipush 36, 0, 36), (9, 4, .multianewarray 9 2, 5, 0), (13, 3, .putfield 11, 5, 0), (16, 1, .return_, 0, 0)]
def co_p6 : List co_AI := [(0, 1, .aload_n 0, 0, 0), (1, 3, .invokespecial 3, 99, 0), (4, 1, .aload_n 0, 0, 0), (5, 2, .bipush 48, 0, 48), (7, 2, .newarray .int, 0, 0), (9, 3, .putfield 9, 6, 0), (12, 1, .aload_n 0, 0, 0), (13, 2, .bipush 36, 0, 36), (15, 2, .newarray .int, 0, 0), (17, 3, .putfield 15, 6, 1), (20, 1, .aload_n 0, 0, 0), (21, 2, .bipush 48, 0, 48), (23, 2, .newarray .boolean, 0, 0), (25, 3, .putfield 18, 6, 2), (28, 1, .aload_n 0, 0, 0), (29, 2, .bipush 48, 0, 48), (31, 2, .newarray .int, 0, 0), (33, 3, .putfield 22, 6, 3), (36, 1, .aload_n 0, 0, 0), (37, 2, .bipush 48, 0, 48), (39, 2, .newarray .int, 0, 0), (41, 3, .putfield 25, 6, 4), (44, 1, .aload_n 0, 0, 0), (45, 2, .bipush 48, 0, 48), (47, 2, .newarray .int, 0, 0), (49, 3, .putfield 28, 6, 5), (52, 1, .aload_n 0, 0, 0), (53, 2, .bipush 48, 0, 48), (55, 2, .newarray .int, 0, 0), (57, 3, .putfield 31, 6, 6), (60, 1, .aload_n 0, 0, 0), (61, 1, .iconst 3, 0, 3), (62, 2, .newarray .int, 0, 0), (64, 3, .putfield 34, 6, 7), (67, 1, .aload_n 0, 0, 0), (68, 1, .aload_n 1, 0, 0), (69, 3, .putfield 37, 6, 8), (72, 1, .aload_n 0, 0, 0), (73, 1, .aload_n 2, 0, 0), (74, 3, .putfield 41, 6, 9), (77, 1, .return_, 0, 0)]
def co_p7 : List co_AI := [(0, 1, .aload_n 0, 0, 0), (1, 3, .invokespecial 3, 99, 0), (4, 1, .aload_n 0, 0, 0), (5, 2, .bipush 48, 0, 48), (7, 2, .bipush 49, 0, 49), (9, 4, .multianewarray 9 2, 5, 0), (13, 3, .putfield 11, 7, 0), (16, 1, .aload_n 0, 0, 0), (17, 2, .bipush 48, 0, 48), (19, 2, .newarray .int, 0, 0), (21, 3, .putfield 16, 7, 1), (24, 1, .aload_n 0, 0, 0), (25, 2, .bipush 84, 0, 84), (27, 2, .newarray .int, 0, 0), (29, 3, .putfield 20, 7, 2), (32, 1, .aload_n 0, 0, 0), (33, 2, .bipush 48, 0, 48), (35, 2, .newarray .long, 0, 0), (37, 3, .putfield 23, 7, 3), (40, 1, .aload_n 0, 0, 0), (41, 2, .bipush 84, 0, 84), (43, 2, .newarray .int, 0, 0), (45, 3, .putfield 27, 7, 4), (48, 1, .aload_n 0, 0, 0), (49, 2, .bipush 49, 0, 49), (51, 2, .newarray .int, 0, 0), (53, 3, .putfield 30, 7, 5), (56, 1, .aload_n 0, 0, 0), (57, 2, .bipush 49, 0, 49), (59, 2, .newarray .int, 0, 0), (61, 3, .putfield 33, 7, 6), (64, 1, .aload_n 0, 0, 0), (65, 2, .bipush 49, 0, 49), (67, 2, .newarray .boolean, 0, 0), (69, 3, .putfield 36, 7, 7), (72, 1, .aload_n 0, 0, 0), (73, 2, .bipush 49, 0, 49), (75, 2, .newarray .int, 0, 0), (77, 3, .putfield 40, 7, 8), (80, 1, .aload_n 0, 0, 0), (81, 1, .aload_n 1, 0, 0), (82, 3, .putfield 43, 7, 11), (85, 1, .return_, 0, 0)]
def co_p8 : List co_AI := [(0, 1, .aload_n 0, 0, 0), (1, 3, .invokespecial 3, 99, 0), (4, 1, .aload_n 0, 0, 0), (5, 2, .bipush 48, 0, 48), (7, 2, .newarray .int, 0, 0), (9, 3, .putfield 9, 8, 0), (12, 1, .aload_n 0, 0, 0), (13, 2, .bipush 48, 0, 48), (15, 2, .newarray .int, 0, 0), (17, 3, .putfield 15, 8, 1), (20, 1, .aload_n 0, 0, 0), (21, 1, .aload_n 1, 0, 0), (22, 3, .putfield 18, 8, 2), (25, 1, .return_, 0, 0)]
def co_p9 : List co_AI := [(0, 1, .aload_n 0, 0, 0), (1, 3, .invokespecial 3, 99, 0), (4, 1, .aload_n 0, 0, 0), (5, 2, .bipush 48, 0, 48), (7, 2, .newarray .int, 0, 0), (9, 3, .putfield 9, 9, 0), (12, 1, .aload_n 0, 0, 0), (13, 1, .aload_n 1, 0, 0), (14, 3, .putfield 15, 9, 1), (17, 1, .aload_n 0, 0, 0), (18, 1, .aload_n 2, 0, 0), (19, 3, .putfield 19, 9, 2), (22, 1, .aload_n 0, 0, 0), (23, 1, .aload_n 3, 0, 0), (24, 3, .putfield 23, 9, 3), (27, 1, .aload_n 0, 0, 0), (28, 2, .aload 4, 0, 0), (30, 3, .putfield 27, 9, 4), (33, 1, .return_, 0, 0)]
def co_p10 : List co_AI := [(0, 1, .aload_n 0, 0, 0), (1, 3, .invokespecial 1, 99, 0), (4, 1, .aload_n 0, 0, 0), (5, 3, .new 7, 3, 0), (8, 1, .dup, 0, 0), (9, 3, .invokespecial 9, 3, 1), (12, 3, .putfield 10, 10, 0), (15, 1, .aload_n 0, 0, 0), (16, 3, .new 16, 4, 0), (19, 1, .dup, 0, 0), (20, 1, .aload_n 0, 0, 0), (21, 3, .getfield 10, 10, 0), (24, 3, .invokespecial 18, 4, 0), (27, 3, .putfield 21, 10, 1), (30, 1, .aload_n 0, 0, 0), (31, 3, .new 25, 0, 0), (34, 1, .dup, 0, 0), (35, 1, .aload_n 0, 0, 0), (36, 3, .getfield 10, 10, 0), (39, 3, .invokespecial 27, 0, 0), (42, 3, .putfield 28, 10, 2), (45, 1, .aload_n 0, 0, 0), (46, 3, .new 32, 6, 0), (49, 1, .dup, 0, 0), (50, 1, .aload_n 0, 0, 0), (51, 3, .getfield 10, 10, 0), (54, 1, .aload_n 0, 0, 0), (55, 3, .getfield 28, 10, 2), (58, 3, .invokespecial 34, 6, 0), (61, 3, .putfield 37, 10, 3), (64, 1, .aload_n 0, 0, 0), (65, 3, .new 41, 7, 0), (68, 1, .dup, 0, 0), (69, 1, .aload_n 0, 0, 0), (70, 3, .getfield 10, 10, 0), (73, 3, .invokespecial 43, 7, 0), (76, 3, .putfield 44, 10, 4), (79, 1, .aload_n 0, 0, 0), (80, 3, .new 48, 9, 0), (83, 1, .dup, 0, 0), (84, 1, .aload_n 0, 0, 0), (85, 3, .getfield 10, 10, 0), (88, 1, .aload_n 0, 0, 0), (89, 3, .getfield 28, 10, 2), (92, 1, .aload_n 0, 0, 0), (93, 3, .getfield 37, 10, 3), (96, 1, .aload_n 0, 0, 0), (97, 3, .getfield 44, 10, 4), (100, 3, .invokespecial 50, 9, 0), (103, 3, .putfield 53, 10, 5), (106, 1, .aload_n 0, 0, 0), (107, 3, .new 57, 5, 0), (110, 1, .dup, 0, 0), (111, 3, .invokespecial 59, 5, 1), (114, 3, .putfield 60, 10, 6), (117, 1, .aload_n 0, 0, 0), (118, 3, .new 64, 1, 0), (121, 1, .dup, 0, 0), (122, 1, .aload_n 0, 0, 0), (123, 3, .getfield 10, 10, 0), (126, 1, .aload_n 0, 0, 0), (127, 3, .getfield 28, 10, 2), (130, 1, .aload_n 0, 0, 0), (131, 3, .getfield 37, 10, 3), (134, 1, .aload_n 0, 0, 0), (135, 3, .getfield 44, 10, 4), (138, 1, .aload_n 0, 0, 0), (139, 3, .getfield 60, 10, 6), (142, 3, .invokespecial 66, 1, 0), (145, 3, .putfield 69, 10, 7), (148, 1, .aload_n 0, 0, 0), (149, 3, .new 73, 2, 0), (152, 1, .dup, 0, 0), (153, 3, .invokespecial 75, 2, 1), (156, 3, .putfield 76, 10, 8), (159, 1, .aload_n 0, 0, 0), (160, 3, .new 80, 8, 0), (163, 1, .dup, 0, 0), (164, 1, .aload_n 0, 0, 0), (165, 3, .getfield 10, 10, 0), (168, 3, .invokespecial 82, 8, 0), (171, 3, .putfield 83, 10, 9), (174, 1, .aload_n 0, 0, 0), (175, 1, .iconst 0, 0, 0), (176, 3, .putfield 87, 10, 10), (179, 1, .return_, 0, 0)]
abbrev co_MT : Type := MethodName × ByteArray × Nat × Nat × Nat × List co_AI
/-- name; bytes, locals, arguments beside the object, the owner, the program -/
def co_mt : List co_MT := [(⟨"Latticefit$Blocks", "<init>", "(LLatticefit$Circuit;)V"⟩, prog_2_method_1_code, 2, 1, 0, co_p0),
  (⟨"Latticefit$Builder", "<init>", "(LLatticefit$Circuit;LLatticefit$Blocks;LLatticefit$Places;LLatticefit$Routes;LLatticefit$Frames;)V"⟩, prog_3_method_1_code, 6, 5, 1, co_p1),
  (⟨"Latticefit$Chip", "<init>", "()V"⟩, prog_4_method_1_code, 1, 0, 2, co_p2),
  (⟨"Latticefit$Circuit", "<init>", "()V"⟩, prog_5_method_1_code, 1, 0, 3, co_p3),
  (⟨"Latticefit$Cuts", "<init>", "(LLatticefit$Circuit;)V"⟩, prog_6_method_1_code, 2, 1, 4, co_p4),
  (⟨"Latticefit$Frames", "<init>", "()V"⟩, prog_7_method_1_code, 1, 0, 5, co_p5),
  (⟨"Latticefit$Places", "<init>", "(LLatticefit$Circuit;LLatticefit$Blocks;)V"⟩, prog_8_method_1_code, 3, 2, 6, co_p6),
  (⟨"Latticefit$Routes", "<init>", "(LLatticefit$Circuit;)V"⟩, prog_9_method_1_code, 2, 1, 7, co_p7),
  (⟨"Latticefit$Runner", "<init>", "(LLatticefit$Circuit;)V"⟩, prog_10_method_1_code, 2, 1, 8, co_p8),
  (⟨"Latticefit$Times", "<init>", "(LLatticefit$Circuit;LLatticefit$Blocks;LLatticefit$Places;LLatticefit$Routes;)V"⟩, prog_11_method_1_code, 5, 4, 9, co_p9),
  (⟨"Latticefit", "<init>", "()V"⟩, prog_1_method_1_code, 1, 0, 10, co_p10)]
def co_m (y : Nat) : co_MT := co_mt.getD y (⟨"", "", ""⟩, ⟨#[]⟩, 0, 0, 99, [])
abbrev co_y (y : Nat) : MethodName := (co_m y).1
abbrev co_b (y : Nat) : ByteArray := (co_m y).2.1
abbrev co_nL (y : Nat) : Nat := (co_m y).2.2.1
abbrev co_o (y : Nat) : Nat := (co_m y).2.2.2.2.1
abbrev co_pg (y : Nat) : List co_AI := (co_m y).2.2.2.2.2
def co_st (y : Nat) : Bool := Nat.ble 11 y
def co_rt (y : Nat) : Option FieldType := if 11 ≤ y then some .int else none
def co_cw (y : Nat) : Cond := .code (co_y y) (co_b y) (co_nL y) (co_rt y)
def co_run : Nat → co_C
  | 0 => fun _ _ _ => none
  | d + 1 => fun y as σ => bif as.all ma_nU && decide ((ma_slots as).length ≤ co_nL y) then (match co_go (co_run d) (co_pg y) 100000 (co_pg y) (ma_entry (co_nL y) as) [] σ with
    | some (.inr z) => bif decide (z.1.isSome = co_st y) then some z else none
    | _ => none) else none
def co_end : Nat → List co_AI → Nat
  | pc, [] => pc
  | pc, a :: cs => co_end (pc + a.2.1) cs
def co_lk : List (Nat × Nat × Nat) := [(11, 126, 10), (10, 18, 4), (10, 27, 0), (10, 34, 6), (10, 43, 7), (10, 50, 9), (10, 66, 1), (10, 82, 8)]
theorem co_lk_in : ∀ w ∈ co_lk.map (fun q => Cond.methodLink (ma_own q.1) q.2.1 (co_y q.2.2)), w ∈ ma_WG := fun w h => ma_WG_in (ma_mem _ [61, 163, 190, 243, 282, 328, 364, 420] (by decide +kernel) w h) (List.all_eq_true.mp (show (co_lk.map (fun q => Cond.methodLink (ma_own q.1) q.2.1 (co_y q.2.2))).all goodWord = true by decide +kernel) w h)
def co_oi : List (Nat × Nat) := [(10, 1), (3, 3), (4, 3), (0, 3), (6, 3), (7, 3), (9, 3), (5, 3), (1, 3), (2, 3), (8, 3)]
theorem co_oi_in : ∀ w ∈ co_oi.map (fun q => Cond.methodLink (ma_own q.1) q.2 objectInit), w ∈ ma_WG := fun w h => ma_WG_in (ma_mem _ [64, 72, 166, 193, 246, 285, 331, 353, 367, 389, 423] (by decide +kernel) w h) (List.all_eq_true.mp (show (co_oi.map (fun q => Cond.methodLink (ma_own q.1) q.2 objectInit)).all goodWord = true by decide +kernel) w h)
def co_cl : List (Nat × Nat × Nat) := [(11, 10, 10), (10, 7, 3), (10, 16, 4), (10, 25, 0), (10, 32, 6), (10, 41, 7), (10, 48, 9), (10, 57, 5), (10, 64, 1), (10, 73, 2), (2, 9, 5), (10, 80, 8)]
theorem co_cl_in : ∀ w ∈ co_cl.map (fun q => Cond.classLink (ma_own q.1) q.2.1 (ma_C q.2.2)), w ∈ ma_WG := fun w h => ma_WG_in (ma_mem _ [59, 67, 161, 188, 241, 280, 326, 348, 362, 384, 390, 418] (by decide +kernel) w h) (List.all_eq_true.mp (show (co_cl.map (fun q => Cond.classLink (ma_own q.1) q.2.1 (ma_C q.2.2))).all goodWord = true by decide +kernel) w h)
def co_al : List (Nat × Nat × Nat) := [(4, 9, 6), (4, 16, 5), (0, 24, 5), (7, 9, 5), (5, 9, 5)]
theorem co_al_in : ∀ w ∈ co_al.map (fun q => Cond.classLink (ma_own q.1) q.2.1 (co_an q.2.2)), w ∈ ma_WG := fun w h => ma_WG_in (ma_mem _ [167, 169, 194, 286, 354] (by decide +kernel) w h) (List.all_eq_true.mp (show (co_al.map (fun q => Cond.classLink (ma_own q.1) q.2.1 (co_an q.2.2))).all goodWord = true by decide +kernel) w h)
def co_ms : List (Nat) := [0, 1, 2, 3, 4, 5, 6, 7, 8, 9, 10]
theorem co_ms_in : ∀ w ∈ co_ms.map (fun y => if co_st y then Cond.static (co_y y) else Cond.instanceMethod (co_y y)), w ∈ ma_WG := fun w h => ma_WG_in (ma_mem _ [191, 365, 387, 70, 164, 351, 244, 283, 421, 329, 62] (by decide +kernel) w h) (List.all_eq_true.mp (show (co_ms.map (fun y => if co_st y then Cond.static (co_y y) else Cond.instanceMethod (co_y y))).all goodWord = true by decide +kernel) w h)
def co_ci : List (Nat) := [0, 1, 2, 3, 4, 5, 6, 7, 8, 9, 10]
theorem co_ci_in : ∀ w ∈ co_ci.map (fun y => Cond.initialized (ma_C y)), w ∈ ma_WG := fun w h => ma_WG_in (ma_mem _ [36, 41, 42, 34, 35, 40, 37, 38, 43, 39, 33] (by decide +kernel) w h) (List.all_eq_true.mp (show (co_ci.map (fun y => Cond.initialized (ma_C y))).all goodWord = true by decide +kernel) w h)
def co_cn : List (Nat) := [0, 1, 2, 3, 4, 5, 6, 7, 8, 9, 10]
theorem co_cn_in : ∀ w ∈ co_cn.map (fun y => Cond.instantiable (ma_C y) (ma_N y)), w ∈ ma_WG := fun w h => ma_WG_in (ma_mem _ [189, 363, 385, 68, 162, 349, 242, 281, 419, 327, 60] (by decide +kernel) w h) (List.all_eq_true.mp (show (co_cn.map (fun y => Cond.instantiable (ma_C y) (ma_N y))).all goodWord = true by decide +kernel) w h)
def co_ac : List (Nat) := [0, 1, 2, 3, 4]
theorem co_ac_in : ∀ w ∈ co_ac.map (fun t => Cond.arrayClass (ma_fat t)), w ∈ ma_WG := fun w h => ma_WG_in (ma_mem _ [160, 187, 240, 159, 160] (by decide +kernel) w h) (List.all_eq_true.mp (show (co_ac.map (fun t => Cond.arrayClass (ma_fat t))).all goodWord = true by decide +kernel) w h)
theorem co_ao_in : ∀ w ∈ (List.range 2).map (fun t => Cond.arrayOver (.array (ma_fat t))), w ∈ lw_tbl := ma_mem _ [170, 168] (by decide +kernel)
theorem co_oo_in : ∀ w ∈ ([.instanceMethod objectInit] : List Cond), w ∈ ma_WG := fun w h => ma_WG_in (ma_mem _ [65] (by decide +kernel) w h) (List.all_eq_true.mp (show ([.instanceMethod objectInit] : List Cond).all goodWord = true by decide +kernel) w h)
set_option maxRecDepth 100000 in
set_option maxHeartbeats 4000000 in
theorem co_oc_in : ∀ w ∈ ([.code objectInit ⟨#[0xb1]⟩ 1 none] : List Cond), w ∈ ma_WG := fun w h => ma_WG_in (ma_memr _ [66] rfl w h) (List.all_eq_true.mp (show ([.code objectInit ⟨#[0xb1]⟩ 1 none] : List Cond).all goodWord = true by decide +kernel) w h)
set_option maxRecDepth 100000 in
set_option maxHeartbeats 4000000 in
theorem co_cw_in : ∀ w ∈ co_ms.map co_cw, w ∈ ma_WG := fun w h => ma_WG_in (ma_memr _ [192, 366, 388, 71, 165, 352, 245, 284, 422, 330, 63] rfl w h) (List.all_eq_true.mp (show (co_ms.map co_cw).all goodWord = true by decide +kernel) w h)
/-- links between nest mates -/
def co_mN : List (Nat × Nat × Nat) := [(10, 9, 3), (10, 59, 5), (10, 75, 2), (2, 11, 5)]
def co_nests : List Cond := co_mN.map (fun q => Cond.methodLinkNest (ma_own q.1) q.2.1 (co_y q.2.2) "Latticefit")
theorem co_nests_in : ∀ w ∈ co_nests, w ∈ lw_tbl := ma_mem _ [69, 350, 386, 391] (by decide +kernel)
