/-! the law's body: its blocks behind the start are what the bytes say; it runs on the JVM -/
def st_blk (i : Nat) : Nat × List Bool × List ma_AI := mb_law.getD i (0, [], [])
def st_ok (i : Nat) : Bool := decide ((st_blk i).2.1.length = 9) && ma_okB code 12 (st_blk i).2.2 (st_blk i).1
set_option maxRecDepth 100000 in
theorem st_k1 : st_ok 1 = true := by decide +kernel
set_option maxRecDepth 100000 in
theorem st_k2 : st_ok 2 = true := by decide +kernel
set_option maxRecDepth 100000 in
theorem st_k3 : st_ok 3 = true := by decide +kernel
set_option maxRecDepth 100000 in
theorem st_k4 : st_ok 4 = true := by decide +kernel
set_option maxRecDepth 100000 in
theorem st_k5 : st_ok 5 = true := by decide +kernel
set_option maxRecDepth 100000 in
theorem st_k6 : st_ok 6 = true := by decide +kernel
set_option maxRecDepth 100000 in
theorem st_k7 : st_ok 7 = true := by decide +kernel
set_option maxRecDepth 100000 in
theorem st_k8 : st_ok 8 = true := by decide +kernel
set_option maxRecDepth 100000 in
theorem st_k9 : st_ok 9 = true := by decide +kernel
set_option maxRecDepth 100000 in
theorem st_k10 : st_ok 10 = true := by decide +kernel
set_option maxRecDepth 100000 in
theorem st_k11 : st_ok 11 = true := by decide +kernel
set_option maxRecDepth 100000 in
theorem st_k12 : st_ok 12 = true := by decide +kernel
set_option maxRecDepth 100000 in
theorem st_k13 : st_ok 13 = true := by decide +kernel
set_option maxRecDepth 100000 in
theorem st_k14 : st_ok 14 = true := by decide +kernel
set_option maxRecDepth 100000 in
theorem st_k15 : st_ok 15 = true := by decide +kernel
set_option maxRecDepth 100000 in
theorem st_k16 : st_ok 16 = true := by decide +kernel
set_option maxRecDepth 100000 in
theorem st_k17 : st_ok 17 = true := by decide +kernel
set_option maxRecDepth 100000 in
theorem st_k18 : st_ok 18 = true := by decide +kernel
set_option maxRecDepth 100000 in
theorem st_k19 : st_ok 19 = true := by decide +kernel
set_option maxRecDepth 100000 in
theorem st_k20 : st_ok 20 = true := by decide +kernel
set_option maxRecDepth 100000 in
theorem st_k21 : st_ok 21 = true := by decide +kernel
set_option maxRecDepth 100000 in
theorem st_k22 : st_ok 22 = true := by decide +kernel
set_option maxRecDepth 100000 in
theorem st_k23 : st_ok 23 = true := by decide +kernel
set_option maxRecDepth 100000 in
theorem st_k24 : st_ok 24 = true := by decide +kernel
set_option maxRecDepth 100000 in
theorem st_k25 : st_ok 25 = true := by decide +kernel
set_option maxRecDepth 100000 in
theorem st_k26 : st_ok 26 = true := by decide +kernel
set_option maxRecDepth 100000 in
theorem st_k27 : st_ok 27 = true := by decide +kernel
set_option maxRecDepth 100000 in
theorem st_k28 : st_ok 28 = true := by decide +kernel
set_option maxRecDepth 100000 in
theorem st_k29 : st_ok 29 = true := by decide +kernel
set_option maxRecDepth 100000 in
theorem st_k30 : st_ok 30 = true := by decide +kernel
set_option maxRecDepth 100000 in
theorem st_k31 : st_ok 31 = true := by decide +kernel
set_option maxRecDepth 100000 in
theorem st_k32 : st_ok 32 = true := by decide +kernel
set_option maxRecDepth 100000 in
theorem st_k33 : st_ok 33 = true := by decide +kernel
set_option maxRecDepth 100000 in
theorem st_k34 : st_ok 34 = true := by decide +kernel
set_option maxRecDepth 100000 in
theorem st_k35 : st_ok 35 = true := by decide +kernel
set_option maxRecDepth 100000 in
theorem st_k36 : st_ok 36 = true := by decide +kernel
set_option maxRecDepth 100000 in
theorem st_k37 : st_ok 37 = true := by decide +kernel
set_option maxRecDepth 100000 in
theorem st_k38 : st_ok 38 = true := by decide +kernel
set_option maxRecDepth 100000 in
theorem st_k39 : st_ok 39 = true := by decide +kernel
set_option maxRecDepth 100000 in
theorem st_k40 : st_ok 40 = true := by decide +kernel
set_option maxRecDepth 100000 in
theorem st_k41 : st_ok 41 = true := by decide +kernel
set_option maxRecDepth 100000 in
theorem st_k42 : st_ok 42 = true := by decide +kernel
set_option maxRecDepth 100000 in
theorem st_k43 : st_ok 43 = true := by decide +kernel
set_option maxRecDepth 100000 in
theorem st_k44 : st_ok 44 = true := by decide +kernel
set_option maxRecDepth 100000 in
theorem st_k45 : st_ok 45 = true := by decide +kernel
set_option maxRecDepth 100000 in
theorem st_k46 : st_ok 46 = true := by decide +kernel
set_option maxRecDepth 100000 in
theorem st_k47 : st_ok 47 = true := by decide +kernel
set_option maxRecDepth 100000 in
theorem st_k48 : st_ok 48 = true := by decide +kernel
set_option maxRecDepth 100000 in
theorem st_k49 : st_ok 49 = true := by decide +kernel
set_option maxRecDepth 100000 in
theorem st_k50 : st_ok 50 = true := by decide +kernel
set_option maxRecDepth 100000 in
theorem st_k51 : st_ok 51 = true := by decide +kernel
set_option maxRecDepth 100000 in
theorem st_k52 : st_ok 52 = true := by decide +kernel
set_option maxRecDepth 100000 in
theorem st_k53 : st_ok 53 = true := by decide +kernel
set_option maxRecDepth 100000 in
theorem st_k54 : st_ok 54 = true := by decide +kernel
set_option maxRecDepth 100000 in
theorem st_k55 : st_ok 55 = true := by decide +kernel
set_option maxRecDepth 100000 in
theorem st_k56 : st_ok 56 = true := by decide +kernel
set_option maxRecDepth 100000 in
theorem st_k57 : st_ok 57 = true := by decide +kernel
set_option maxRecDepth 100000 in
theorem st_k58 : st_ok 58 = true := by decide +kernel
set_option maxRecDepth 100000 in
theorem st_k59 : st_ok 59 = true := by decide +kernel
set_option maxRecDepth 100000 in
theorem st_k60 : st_ok 60 = true := by decide +kernel
set_option maxRecDepth 100000 in
theorem st_k61 : st_ok 61 = true := by decide +kernel
set_option maxRecDepth 100000 in
theorem st_k62 : st_ok 62 = true := by decide +kernel
set_option maxRecDepth 100000 in
theorem st_k63 : st_ok 63 = true := by decide +kernel
set_option maxRecDepth 100000 in
theorem st_k64 : st_ok 64 = true := by decide +kernel
set_option maxRecDepth 100000 in
theorem st_k65 : st_ok 65 = true := by decide +kernel
set_option maxRecDepth 100000 in
theorem st_k66 : st_ok 66 = true := by decide +kernel
set_option maxRecDepth 100000 in
theorem st_k67 : st_ok 67 = true := by decide +kernel
set_option maxRecDepth 100000 in
theorem st_k68 : st_ok 68 = true := by decide +kernel
set_option maxRecDepth 100000 in
theorem st_k69 : st_ok 69 = true := by decide +kernel
set_option maxRecDepth 100000 in
theorem st_k70 : st_ok 70 = true := by decide +kernel
set_option maxRecDepth 100000 in
theorem st_k71 : st_ok 71 = true := by decide +kernel
set_option maxRecDepth 100000 in
theorem st_k72 : st_ok 72 = true := by decide +kernel
set_option maxRecDepth 100000 in
theorem st_k73 : st_ok 73 = true := by decide +kernel
set_option maxRecDepth 100000 in
theorem st_k74 : st_ok 74 = true := by decide +kernel
set_option maxRecDepth 100000 in
theorem st_k75 : st_ok 75 = true := by decide +kernel
set_option maxRecDepth 100000 in
theorem st_k76 : st_ok 76 = true := by decide +kernel
set_option maxRecDepth 100000 in
theorem st_k77 : st_ok 77 = true := by decide +kernel
set_option maxRecDepth 100000 in
theorem st_k78 : st_ok 78 = true := by decide +kernel
set_option maxRecDepth 100000 in
theorem st_k79 : st_ok 79 = true := by decide +kernel
set_option maxRecDepth 100000 in
theorem st_k80 : st_ok 80 = true := by decide +kernel
set_option maxRecDepth 100000 in
theorem st_k81 : st_ok 81 = true := by decide +kernel
set_option maxRecDepth 100000 in
theorem st_k82 : st_ok 82 = true := by decide +kernel
set_option maxRecDepth 100000 in
theorem st_k83 : st_ok 83 = true := by decide +kernel
set_option maxRecDepth 100000 in
theorem st_k84 : st_ok 84 = true := by decide +kernel
set_option maxRecDepth 100000 in
theorem st_k85 : st_ok 85 = true := by decide +kernel
set_option maxRecDepth 100000 in
theorem st_k86 : st_ok 86 = true := by decide +kernel
set_option maxRecDepth 100000 in
theorem st_k87 : st_ok 87 = true := by decide +kernel
set_option maxRecDepth 100000 in
theorem st_k88 : st_ok 88 = true := by decide +kernel
set_option maxRecDepth 100000 in
theorem st_k89 : st_ok 89 = true := by decide +kernel
set_option maxRecDepth 100000 in
theorem st_k90 : st_ok 90 = true := by decide +kernel
set_option maxRecDepth 100000 in
theorem st_k91 : st_ok 91 = true := by decide +kernel
set_option maxRecDepth 100000 in
theorem st_k92 : st_ok 92 = true := by decide +kernel
set_option maxRecDepth 100000 in
theorem st_k93 : st_ok 93 = true := by decide +kernel
set_option maxRecDepth 100000 in
theorem st_k94 : st_ok 94 = true := by decide +kernel
set_option maxRecDepth 100000 in
theorem st_k95 : st_ok 95 = true := by decide +kernel
set_option maxRecDepth 100000 in
theorem st_k96 : st_ok 96 = true := by decide +kernel
set_option maxRecDepth 100000 in
theorem st_k97 : st_ok 97 = true := by decide +kernel
set_option maxRecDepth 100000 in
theorem st_k98 : st_ok 98 = true := by decide +kernel
set_option maxRecDepth 100000 in
theorem st_k99 : st_ok 99 = true := by decide +kernel
set_option maxRecDepth 100000 in
theorem st_k100 : st_ok 100 = true := by decide +kernel
set_option maxRecDepth 100000 in
theorem st_k101 : st_ok 101 = true := by decide +kernel
set_option maxRecDepth 100000 in
theorem st_k102 : st_ok 102 = true := by decide +kernel
set_option maxRecDepth 100000 in
theorem st_k103 : st_ok 103 = true := by decide +kernel
set_option maxRecDepth 100000 in
theorem st_k104 : st_ok 104 = true := by decide +kernel
set_option maxRecDepth 100000 in
theorem st_k105 : st_ok 105 = true := by decide +kernel
set_option maxRecDepth 100000 in
theorem st_k106 : st_ok 106 = true := by decide +kernel
set_option maxRecDepth 100000 in
theorem st_k107 : st_ok 107 = true := by decide +kernel
set_option maxRecDepth 100000 in
theorem st_k108 : st_ok 108 = true := by decide +kernel
set_option maxRecDepth 100000 in
theorem st_k109 : st_ok 109 = true := by decide +kernel
set_option maxRecDepth 100000 in
theorem st_k110 : st_ok 110 = true := by decide +kernel
set_option maxRecDepth 100000 in
theorem st_k111 : st_ok 111 = true := by decide +kernel
set_option maxRecDepth 100000 in
theorem st_k112 : st_ok 112 = true := by decide +kernel
set_option maxRecDepth 100000 in
theorem st_k113 : st_ok 113 = true := by decide +kernel
set_option maxRecDepth 100000 in
theorem st_k114 : st_ok 114 = true := by decide +kernel
set_option maxRecDepth 100000 in
theorem st_k115 : st_ok 115 = true := by decide +kernel
set_option maxRecDepth 100000 in
theorem st_k116 : st_ok 116 = true := by decide +kernel
set_option maxRecDepth 100000 in
theorem st_k117 : st_ok 117 = true := by decide +kernel
set_option maxRecDepth 100000 in
theorem st_k118 : st_ok 118 = true := by decide +kernel
set_option maxRecDepth 100000 in
theorem st_k119 : st_ok 119 = true := by decide +kernel
set_option maxRecDepth 100000 in
theorem st_k120 : st_ok 120 = true := by decide +kernel
set_option maxRecDepth 100000 in
theorem st_k121 : st_ok 121 = true := by decide +kernel
set_option maxRecDepth 100000 in
theorem st_k122 : st_ok 122 = true := by decide +kernel
set_option maxRecDepth 100000 in
theorem st_k123 : st_ok 123 = true := by decide +kernel
set_option maxRecDepth 100000 in
theorem st_k124 : st_ok 124 = true := by decide +kernel
set_option maxRecDepth 100000 in
theorem st_k125 : st_ok 125 = true := by decide +kernel
set_option maxRecDepth 100000 in
theorem st_k126 : st_ok 126 = true := by decide +kernel
set_option maxRecDepth 100000 in
theorem st_k127 : st_ok 127 = true := by decide +kernel
set_option maxRecDepth 100000 in
theorem st_k128 : st_ok 128 = true := by decide +kernel
set_option maxRecDepth 100000 in
theorem st_k129 : st_ok 129 = true := by decide +kernel
set_option maxRecDepth 100000 in
theorem st_k130 : st_ok 130 = true := by decide +kernel
set_option maxRecDepth 100000 in
theorem st_k131 : st_ok 131 = true := by decide +kernel
set_option maxRecDepth 100000 in
theorem st_k132 : st_ok 132 = true := by decide +kernel
set_option maxRecDepth 100000 in
theorem st_k133 : st_ok 133 = true := by decide +kernel
set_option maxRecDepth 100000 in
theorem st_k134 : st_ok 134 = true := by decide +kernel
set_option maxRecDepth 100000 in
theorem st_k135 : st_ok 135 = true := by decide +kernel
set_option maxRecDepth 100000 in
theorem st_k136 : st_ok 136 = true := by decide +kernel
set_option maxRecDepth 100000 in
theorem st_k137 : st_ok 137 = true := by decide +kernel
set_option maxRecDepth 100000 in
theorem st_k138 : st_ok 138 = true := by decide +kernel
set_option maxRecDepth 100000 in
theorem st_k139 : st_ok 139 = true := by decide +kernel
set_option maxRecDepth 100000 in
theorem st_k140 : st_ok 140 = true := by decide +kernel
set_option maxRecDepth 100000 in
theorem st_k141 : st_ok 141 = true := by decide +kernel
set_option maxRecDepth 100000 in
theorem st_k142 : st_ok 142 = true := by decide +kernel
set_option maxRecDepth 100000 in
theorem st_k143 : st_ok 143 = true := by decide +kernel
set_option maxRecDepth 100000 in
theorem st_k144 : st_ok 144 = true := by decide +kernel
set_option maxRecDepth 100000 in
theorem st_k145 : st_ok 145 = true := by decide +kernel
set_option maxRecDepth 100000 in
theorem st_k146 : st_ok 146 = true := by decide +kernel
theorem st_kall : ∀ i, 1 ≤ i → i < 147 → st_ok i = true := by
  intro i h1 h2
  match i, h1, h2 with
  | 0, h1, _ => exact absurd h1 (by decide)
  | 1, _, _ => exact st_k1
  | 2, _, _ => exact st_k2
  | 3, _, _ => exact st_k3
  | 4, _, _ => exact st_k4
  | 5, _, _ => exact st_k5
  | 6, _, _ => exact st_k6
  | 7, _, _ => exact st_k7
  | 8, _, _ => exact st_k8
  | 9, _, _ => exact st_k9
  | 10, _, _ => exact st_k10
  | 11, _, _ => exact st_k11
  | 12, _, _ => exact st_k12
  | 13, _, _ => exact st_k13
  | 14, _, _ => exact st_k14
  | 15, _, _ => exact st_k15
  | 16, _, _ => exact st_k16
  | 17, _, _ => exact st_k17
  | 18, _, _ => exact st_k18
  | 19, _, _ => exact st_k19
  | 20, _, _ => exact st_k20
  | 21, _, _ => exact st_k21
  | 22, _, _ => exact st_k22
  | 23, _, _ => exact st_k23
  | 24, _, _ => exact st_k24
  | 25, _, _ => exact st_k25
  | 26, _, _ => exact st_k26
  | 27, _, _ => exact st_k27
  | 28, _, _ => exact st_k28
  | 29, _, _ => exact st_k29
  | 30, _, _ => exact st_k30
  | 31, _, _ => exact st_k31
  | 32, _, _ => exact st_k32
  | 33, _, _ => exact st_k33
  | 34, _, _ => exact st_k34
  | 35, _, _ => exact st_k35
  | 36, _, _ => exact st_k36
  | 37, _, _ => exact st_k37
  | 38, _, _ => exact st_k38
  | 39, _, _ => exact st_k39
  | 40, _, _ => exact st_k40
  | 41, _, _ => exact st_k41
  | 42, _, _ => exact st_k42
  | 43, _, _ => exact st_k43
  | 44, _, _ => exact st_k44
  | 45, _, _ => exact st_k45
  | 46, _, _ => exact st_k46
  | 47, _, _ => exact st_k47
  | 48, _, _ => exact st_k48
  | 49, _, _ => exact st_k49
  | 50, _, _ => exact st_k50
  | 51, _, _ => exact st_k51
  | 52, _, _ => exact st_k52
  | 53, _, _ => exact st_k53
  | 54, _, _ => exact st_k54
  | 55, _, _ => exact st_k55
  | 56, _, _ => exact st_k56
  | 57, _, _ => exact st_k57
  | 58, _, _ => exact st_k58
  | 59, _, _ => exact st_k59
  | 60, _, _ => exact st_k60
  | 61, _, _ => exact st_k61
  | 62, _, _ => exact st_k62
  | 63, _, _ => exact st_k63
  | 64, _, _ => exact st_k64
  | 65, _, _ => exact st_k65
  | 66, _, _ => exact st_k66
  | 67, _, _ => exact st_k67
  | 68, _, _ => exact st_k68
  | 69, _, _ => exact st_k69
  | 70, _, _ => exact st_k70
  | 71, _, _ => exact st_k71
  | 72, _, _ => exact st_k72
  | 73, _, _ => exact st_k73
  | 74, _, _ => exact st_k74
  | 75, _, _ => exact st_k75
  | 76, _, _ => exact st_k76
  | 77, _, _ => exact st_k77
  | 78, _, _ => exact st_k78
  | 79, _, _ => exact st_k79
  | 80, _, _ => exact st_k80
  | 81, _, _ => exact st_k81
  | 82, _, _ => exact st_k82
  | 83, _, _ => exact st_k83
  | 84, _, _ => exact st_k84
  | 85, _, _ => exact st_k85
  | 86, _, _ => exact st_k86
  | 87, _, _ => exact st_k87
  | 88, _, _ => exact st_k88
  | 89, _, _ => exact st_k89
  | 90, _, _ => exact st_k90
  | 91, _, _ => exact st_k91
  | 92, _, _ => exact st_k92
  | 93, _, _ => exact st_k93
  | 94, _, _ => exact st_k94
  | 95, _, _ => exact st_k95
  | 96, _, _ => exact st_k96
  | 97, _, _ => exact st_k97
  | 98, _, _ => exact st_k98
  | 99, _, _ => exact st_k99
  | 100, _, _ => exact st_k100
  | 101, _, _ => exact st_k101
  | 102, _, _ => exact st_k102
  | 103, _, _ => exact st_k103
  | 104, _, _ => exact st_k104
  | 105, _, _ => exact st_k105
  | 106, _, _ => exact st_k106
  | 107, _, _ => exact st_k107
  | 108, _, _ => exact st_k108
  | 109, _, _ => exact st_k109
  | 110, _, _ => exact st_k110
  | 111, _, _ => exact st_k111
  | 112, _, _ => exact st_k112
  | 113, _, _ => exact st_k113
  | 114, _, _ => exact st_k114
  | 115, _, _ => exact st_k115
  | 116, _, _ => exact st_k116
  | 117, _, _ => exact st_k117
  | 118, _, _ => exact st_k118
  | 119, _, _ => exact st_k119
  | 120, _, _ => exact st_k120
  | 121, _, _ => exact st_k121
  | 122, _, _ => exact st_k122
  | 123, _, _ => exact st_k123
  | 124, _, _ => exact st_k124
  | 125, _, _ => exact st_k125
  | 126, _, _ => exact st_k126
  | 127, _, _ => exact st_k127
  | 128, _, _ => exact st_k128
  | 129, _, _ => exact st_k129
  | 130, _, _ => exact st_k130
  | 131, _, _ => exact st_k131
  | 132, _, _ => exact st_k132
  | 133, _, _ => exact st_k133
  | 134, _, _ => exact st_k134
  | 135, _, _ => exact st_k135
  | 136, _, _ => exact st_k136
  | 137, _, _ => exact st_k137
  | 138, _, _ => exact st_k138
  | 139, _, _ => exact st_k139
  | 140, _, _ => exact st_k140
  | 141, _, _ => exact st_k141
  | 142, _, _ => exact st_k142
  | 143, _, _ => exact st_k143
  | 144, _, _ => exact st_k144
  | 145, _, _ => exact st_k145
  | 146, _, _ => exact st_k146
  | n + 147, _, h2 => exact absurd h2 (Nat.not_lt.mpr (Nat.le_add_left _ _))
theorem st_lawlen : mb_law.length = 147 := rfl
theorem st_chk_m : ma_chk code 12 9 mb_law.tail = true := by
  refine List.all_eq_true.mpr (fun x hx => ?_)
  obtain ⟨i, hi, rfl⟩ := List.getElem_of_mem hx
  have hlt : i + 1 < mb_law.length := by rw [List.length_tail] at hi; omega
  have h := st_kall (i + 1) (by omega) (by rw [← st_lawlen]; exact hlt)
  have e : st_blk (i + 1) = mb_law.tail[i] := by
    unfold st_blk
    rw [List.getD_eq_getElem?_getD, List.getElem?_eq_getElem hlt, List.getElem_tail]
    rfl
  unfold st_ok at h
  rw [e] at h
  exact h
theorem st_at {pc : Nat} {x : List Bool × List ma_AI} (h : ma_at mb_law pc = some x) (h0 : pc ≠ 0) : ma_at mb_law.tail pc = some x := by
  have key : ∀ t : ma_Tb, (∀ y ys, t = y :: ys → y.1 = 0) → ma_at t pc = some x → ma_at t.tail pc = some x := by
    intro t ht h
    cases t with
    | nil => cases h
    | cons y ys =>
      unfold ma_at at h
      rw [ht y ys rfl, if_neg h0] at h
      exact h
  refine key mb_law (fun y ys hy => ?_) h
  have h1 := congrArg (fun t : ma_Tb => t.head?.map (·.1)) hy
  have h2 : (mb_law.head?.map (·.1)) = some 0 := rfl
  have h3 : some 0 = some y.1 := h2.symm.trans h1
  exact (Option.some.inj h3).symm
theorem st_b0 {O : ma_O} {E : ma_E} {x : List Bool × List ma_AI} {ls st : List ma_V} {k : Nat} {μ : ma_M} {J : ma_J} {D : ma_Dn} (h : ma_at mb_law 0 = some x) (hd : ma_den O E x.2 0 ls st k μ J D) : False := by
  cases h
  exact hd
/-- the law's body on the small machine runs on the JVM (the bytes ahead of its loop are the constructors' part) -/
theorem st_run {p : Program} {l : Launch} {e : Env} {R : Room} {s : State} {m : MethodId} {args : Array Value} {below : List Frame} {meth : Method} {c : Code} {Q : State → Prop} {G : ma_G} {c0 s0 pc k d : Nat} {ls st : List ma_V} {μ : ma_M} {O : ma_O} {E : ma_E} {D : ma_Dn} (C : ma_Cx p s m args c G code 12 9) (hLn : 9 = c.maxLocals) (hLS : E.1 = G.LS ∧ G.LS ≤ 2048)
    (hR : d + 11 ≤ R.frames ∧ 43 * (d + 1) + 200 ≤ R.locals) (hRo : ma_Ro R E c0 s0) (hO : ∀ y as μ Post, O y as μ Post → ma_Ct l G d y as μ Post)
    (hX : ma_hX p l e R s m args below meth c Q E) (hE : ma_hE p l e R s m args below meth c Q G code 12 9 c0 s0 E D) (h : ma_run O E (ma_at mb_law) D pc ls st k μ) : ma_W p l e R s m args below meth c Q G 9 c0 s0 pc ls st k μ := by
  refine h (fun pc ls st k μ => ma_W p l e R s m args below meth c Q G 9 c0 s0 pc ls st k μ) (fun pc b ls st k μ hb hd => ?_)
  by_cases h0 : pc = 0
  · subst h0
    exact (st_b0 hb hd).elim
  · obtain ⟨h1, h2⟩ := ma_chk_at st_chk_m (st_at hb h0)
    have h3 := ma_s_den C hLn hLS hR hRo hO hX hE (fun _ _ _ _ _ z => z) b.2 pc _ st k μ h2 hd
    intro H locs als vs hH hS hL hR9
    exact h3 H locs als vs hH hS (hL.msk h1) hR9
