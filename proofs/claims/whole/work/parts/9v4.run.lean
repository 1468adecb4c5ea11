/-! the law's body runs on the JVM -/
theorem st_up {n m : Nat} (hm : m = n + 1) (h : st_ok n = true) (g : ∀ i, m ≤ i → i < 147 → st_ok i = true) : ∀ i, n ≤ i → i < 147 → st_ok i = true := by
  intro i h1 h2
  rcases Nat.eq_or_lt_of_le h1 with e | e
  · rw [← e]
    exact h
  · exact g i (by rw [hm]; exact e) h2
theorem st_kq147 : ∀ i, 147 ≤ i → i < 147 → st_ok i = true := fun _ h1 h2 => absurd h2 (Nat.not_lt.mpr h1)
theorem st_kq146 : ∀ i, 146 ≤ i → i < 147 → st_ok i = true := st_up rfl st_lk146 st_kq147
theorem st_kq145 : ∀ i, 145 ≤ i → i < 147 → st_ok i = true := st_up rfl st_lk145 st_kq146
theorem st_kq144 : ∀ i, 144 ≤ i → i < 147 → st_ok i = true := st_up rfl st_lk144 st_kq145
theorem st_kq143 : ∀ i, 143 ≤ i → i < 147 → st_ok i = true := st_up rfl st_lk143 st_kq144
theorem st_kq142 : ∀ i, 142 ≤ i → i < 147 → st_ok i = true := st_up rfl st_lk142 st_kq143
theorem st_kq141 : ∀ i, 141 ≤ i → i < 147 → st_ok i = true := st_up rfl st_lk141 st_kq142
theorem st_kq140 : ∀ i, 140 ≤ i → i < 147 → st_ok i = true := st_up rfl st_lk140 st_kq141
theorem st_kq139 : ∀ i, 139 ≤ i → i < 147 → st_ok i = true := st_up rfl st_lk139 st_kq140
theorem st_kq138 : ∀ i, 138 ≤ i → i < 147 → st_ok i = true := st_up rfl st_lk138 st_kq139
theorem st_kq137 : ∀ i, 137 ≤ i → i < 147 → st_ok i = true := st_up rfl st_lk137 st_kq138
theorem st_kq136 : ∀ i, 136 ≤ i → i < 147 → st_ok i = true := st_up rfl st_lk136 st_kq137
theorem st_kq135 : ∀ i, 135 ≤ i → i < 147 → st_ok i = true := st_up rfl st_lk135 st_kq136
theorem st_kq134 : ∀ i, 134 ≤ i → i < 147 → st_ok i = true := st_up rfl st_lk134 st_kq135
theorem st_kq133 : ∀ i, 133 ≤ i → i < 147 → st_ok i = true := st_up rfl st_lk133 st_kq134
theorem st_kq132 : ∀ i, 132 ≤ i → i < 147 → st_ok i = true := st_up rfl st_lk132 st_kq133
theorem st_kq131 : ∀ i, 131 ≤ i → i < 147 → st_ok i = true := st_up rfl st_lk131 st_kq132
theorem st_kq130 : ∀ i, 130 ≤ i → i < 147 → st_ok i = true := st_up rfl st_lk130 st_kq131
theorem st_kq129 : ∀ i, 129 ≤ i → i < 147 → st_ok i = true := st_up rfl st_lk129 st_kq130
theorem st_kq128 : ∀ i, 128 ≤ i → i < 147 → st_ok i = true := st_up rfl st_lk128 st_kq129
theorem st_kq127 : ∀ i, 127 ≤ i → i < 147 → st_ok i = true := st_up rfl st_lk127 st_kq128
theorem st_kq126 : ∀ i, 126 ≤ i → i < 147 → st_ok i = true := st_up rfl st_lk126 st_kq127
theorem st_kq125 : ∀ i, 125 ≤ i → i < 147 → st_ok i = true := st_up rfl st_lk125 st_kq126
theorem st_kq124 : ∀ i, 124 ≤ i → i < 147 → st_ok i = true := st_up rfl st_lk124 st_kq125
theorem st_kq123 : ∀ i, 123 ≤ i → i < 147 → st_ok i = true := st_up rfl st_lk123 st_kq124
theorem st_kq122 : ∀ i, 122 ≤ i → i < 147 → st_ok i = true := st_up rfl st_lk122 st_kq123
theorem st_kq121 : ∀ i, 121 ≤ i → i < 147 → st_ok i = true := st_up rfl st_lk121 st_kq122
theorem st_kq120 : ∀ i, 120 ≤ i → i < 147 → st_ok i = true := st_up rfl st_lk120 st_kq121
theorem st_kq119 : ∀ i, 119 ≤ i → i < 147 → st_ok i = true := st_up rfl st_lk119 st_kq120
theorem st_kq118 : ∀ i, 118 ≤ i → i < 147 → st_ok i = true := st_up rfl st_lk118 st_kq119
theorem st_kq117 : ∀ i, 117 ≤ i → i < 147 → st_ok i = true := st_up rfl st_lk117 st_kq118
theorem st_kq116 : ∀ i, 116 ≤ i → i < 147 → st_ok i = true := st_up rfl st_lk116 st_kq117
theorem st_kq115 : ∀ i, 115 ≤ i → i < 147 → st_ok i = true := st_up rfl st_lk115 st_kq116
theorem st_kq114 : ∀ i, 114 ≤ i → i < 147 → st_ok i = true := st_up rfl st_lk114 st_kq115
theorem st_kq113 : ∀ i, 113 ≤ i → i < 147 → st_ok i = true := st_up rfl st_lk113 st_kq114
theorem st_kq112 : ∀ i, 112 ≤ i → i < 147 → st_ok i = true := st_up rfl st_lk112 st_kq113
theorem st_kq111 : ∀ i, 111 ≤ i → i < 147 → st_ok i = true := st_up rfl st_lk111 st_kq112
theorem st_kq110 : ∀ i, 110 ≤ i → i < 147 → st_ok i = true := st_up rfl st_lk110 st_kq111
theorem st_kq109 : ∀ i, 109 ≤ i → i < 147 → st_ok i = true := st_up rfl st_lk109 st_kq110
theorem st_kq108 : ∀ i, 108 ≤ i → i < 147 → st_ok i = true := st_up rfl st_lk108 st_kq109
theorem st_kq107 : ∀ i, 107 ≤ i → i < 147 → st_ok i = true := st_up rfl st_lk107 st_kq108
theorem st_kq106 : ∀ i, 106 ≤ i → i < 147 → st_ok i = true := st_up rfl st_lk106 st_kq107
theorem st_kq105 : ∀ i, 105 ≤ i → i < 147 → st_ok i = true := st_up rfl st_lk105 st_kq106
theorem st_kq104 : ∀ i, 104 ≤ i → i < 147 → st_ok i = true := st_up rfl st_lk104 st_kq105
theorem st_kq103 : ∀ i, 103 ≤ i → i < 147 → st_ok i = true := st_up rfl st_lk103 st_kq104
theorem st_kq102 : ∀ i, 102 ≤ i → i < 147 → st_ok i = true := st_up rfl st_lk102 st_kq103
theorem st_kq101 : ∀ i, 101 ≤ i → i < 147 → st_ok i = true := st_up rfl st_lk101 st_kq102
theorem st_kq100 : ∀ i, 100 ≤ i → i < 147 → st_ok i = true := st_up rfl st_lk100 st_kq101
theorem st_kq99 : ∀ i, 99 ≤ i → i < 147 → st_ok i = true := st_up rfl st_lk99 st_kq100
theorem st_kq98 : ∀ i, 98 ≤ i → i < 147 → st_ok i = true := st_up rfl st_lk98 st_kq99
theorem st_kq97 : ∀ i, 97 ≤ i → i < 147 → st_ok i = true := st_up rfl st_lk97 st_kq98
theorem st_kq96 : ∀ i, 96 ≤ i → i < 147 → st_ok i = true := st_up rfl st_lk96 st_kq97
theorem st_kq95 : ∀ i, 95 ≤ i → i < 147 → st_ok i = true := st_up rfl st_lk95 st_kq96
theorem st_kq94 : ∀ i, 94 ≤ i → i < 147 → st_ok i = true := st_up rfl st_lk94 st_kq95
theorem st_kq93 : ∀ i, 93 ≤ i → i < 147 → st_ok i = true := st_up rfl st_lk93 st_kq94
theorem st_kq92 : ∀ i, 92 ≤ i → i < 147 → st_ok i = true := st_up rfl st_lk92 st_kq93
theorem st_kq91 : ∀ i, 91 ≤ i → i < 147 → st_ok i = true := st_up rfl st_lk91 st_kq92
theorem st_kq90 : ∀ i, 90 ≤ i → i < 147 → st_ok i = true := st_up rfl st_lk90 st_kq91
theorem st_kq89 : ∀ i, 89 ≤ i → i < 147 → st_ok i = true := st_up rfl st_lk89 st_kq90
theorem st_kq88 : ∀ i, 88 ≤ i → i < 147 → st_ok i = true := st_up rfl st_lk88 st_kq89
theorem st_kq87 : ∀ i, 87 ≤ i → i < 147 → st_ok i = true := st_up rfl st_lk87 st_kq88
theorem st_kq86 : ∀ i, 86 ≤ i → i < 147 → st_ok i = true := st_up rfl st_lk86 st_kq87
theorem st_kq85 : ∀ i, 85 ≤ i → i < 147 → st_ok i = true := st_up rfl st_lk85 st_kq86
theorem st_kq84 : ∀ i, 84 ≤ i → i < 147 → st_ok i = true := st_up rfl st_lk84 st_kq85
theorem st_kq83 : ∀ i, 83 ≤ i → i < 147 → st_ok i = true := st_up rfl st_lk83 st_kq84
theorem st_kq82 : ∀ i, 82 ≤ i → i < 147 → st_ok i = true := st_up rfl st_lk82 st_kq83
theorem st_kq81 : ∀ i, 81 ≤ i → i < 147 → st_ok i = true := st_up rfl st_lk81 st_kq82
theorem st_kq80 : ∀ i, 80 ≤ i → i < 147 → st_ok i = true := st_up rfl st_lk80 st_kq81
theorem st_kq79 : ∀ i, 79 ≤ i → i < 147 → st_ok i = true := st_up rfl st_lk79 st_kq80
theorem st_kq78 : ∀ i, 78 ≤ i → i < 147 → st_ok i = true := st_up rfl st_lk78 st_kq79
theorem st_kq77 : ∀ i, 77 ≤ i → i < 147 → st_ok i = true := st_up rfl st_lk77 st_kq78
theorem st_kq76 : ∀ i, 76 ≤ i → i < 147 → st_ok i = true := st_up rfl st_lk76 st_kq77
theorem st_kq75 : ∀ i, 75 ≤ i → i < 147 → st_ok i = true := st_up rfl st_lk75 st_kq76
theorem st_kq74 : ∀ i, 74 ≤ i → i < 147 → st_ok i = true := st_up rfl st_lk74 st_kq75
theorem st_kq73 : ∀ i, 73 ≤ i → i < 147 → st_ok i = true := st_up rfl st_lk73 st_kq74
theorem st_kq72 : ∀ i, 72 ≤ i → i < 147 → st_ok i = true := st_up rfl st_lk72 st_kq73
theorem st_kq71 : ∀ i, 71 ≤ i → i < 147 → st_ok i = true := st_up rfl st_lk71 st_kq72
theorem st_kq70 : ∀ i, 70 ≤ i → i < 147 → st_ok i = true := st_up rfl st_lk70 st_kq71
theorem st_kq69 : ∀ i, 69 ≤ i → i < 147 → st_ok i = true := st_up rfl st_lk69 st_kq70
theorem st_kq68 : ∀ i, 68 ≤ i → i < 147 → st_ok i = true := st_up rfl st_lk68 st_kq69
theorem st_kq67 : ∀ i, 67 ≤ i → i < 147 → st_ok i = true := st_up rfl st_lk67 st_kq68
theorem st_kq66 : ∀ i, 66 ≤ i → i < 147 → st_ok i = true := st_up rfl st_lk66 st_kq67
theorem st_kq65 : ∀ i, 65 ≤ i → i < 147 → st_ok i = true := st_up rfl st_lk65 st_kq66
theorem st_kq64 : ∀ i, 64 ≤ i → i < 147 → st_ok i = true := st_up rfl st_lk64 st_kq65
theorem st_kq63 : ∀ i, 63 ≤ i → i < 147 → st_ok i = true := st_up rfl st_lk63 st_kq64
theorem st_kq62 : ∀ i, 62 ≤ i → i < 147 → st_ok i = true := st_up rfl st_lk62 st_kq63
theorem st_kq61 : ∀ i, 61 ≤ i → i < 147 → st_ok i = true := st_up rfl st_lk61 st_kq62
theorem st_kq60 : ∀ i, 60 ≤ i → i < 147 → st_ok i = true := st_up rfl st_lk60 st_kq61
theorem st_kq59 : ∀ i, 59 ≤ i → i < 147 → st_ok i = true := st_up rfl st_lk59 st_kq60
theorem st_kq58 : ∀ i, 58 ≤ i → i < 147 → st_ok i = true := st_up rfl st_lk58 st_kq59
theorem st_kq57 : ∀ i, 57 ≤ i → i < 147 → st_ok i = true := st_up rfl st_lk57 st_kq58
theorem st_kq56 : ∀ i, 56 ≤ i → i < 147 → st_ok i = true := st_up rfl st_lk56 st_kq57
theorem st_kq55 : ∀ i, 55 ≤ i → i < 147 → st_ok i = true := st_up rfl st_lk55 st_kq56
theorem st_kq54 : ∀ i, 54 ≤ i → i < 147 → st_ok i = true := st_up rfl st_lk54 st_kq55
theorem st_kq53 : ∀ i, 53 ≤ i → i < 147 → st_ok i = true := st_up rfl st_lk53 st_kq54
theorem st_kq52 : ∀ i, 52 ≤ i → i < 147 → st_ok i = true := st_up rfl st_lk52 st_kq53
theorem st_kq51 : ∀ i, 51 ≤ i → i < 147 → st_ok i = true := st_up rfl st_lk51 st_kq52
theorem st_kq50 : ∀ i, 50 ≤ i → i < 147 → st_ok i = true := st_up rfl st_lk50 st_kq51
theorem st_kq49 : ∀ i, 49 ≤ i → i < 147 → st_ok i = true := st_up rfl st_lk49 st_kq50
theorem st_kq48 : ∀ i, 48 ≤ i → i < 147 → st_ok i = true := st_up rfl st_lk48 st_kq49
theorem st_kq47 : ∀ i, 47 ≤ i → i < 147 → st_ok i = true := st_up rfl st_lk47 st_kq48
theorem st_kq46 : ∀ i, 46 ≤ i → i < 147 → st_ok i = true := st_up rfl st_lk46 st_kq47
theorem st_kq45 : ∀ i, 45 ≤ i → i < 147 → st_ok i = true := st_up rfl st_lk45 st_kq46
theorem st_kq44 : ∀ i, 44 ≤ i → i < 147 → st_ok i = true := st_up rfl st_lk44 st_kq45
theorem st_kq43 : ∀ i, 43 ≤ i → i < 147 → st_ok i = true := st_up rfl st_lk43 st_kq44
theorem st_kq42 : ∀ i, 42 ≤ i → i < 147 → st_ok i = true := st_up rfl st_lk42 st_kq43
theorem st_kq41 : ∀ i, 41 ≤ i → i < 147 → st_ok i = true := st_up rfl st_lk41 st_kq42
theorem st_kq40 : ∀ i, 40 ≤ i → i < 147 → st_ok i = true := st_up rfl st_lk40 st_kq41
theorem st_kq39 : ∀ i, 39 ≤ i → i < 147 → st_ok i = true := st_up rfl st_lk39 st_kq40
theorem st_kq38 : ∀ i, 38 ≤ i → i < 147 → st_ok i = true := st_up rfl st_lk38 st_kq39
theorem st_kq37 : ∀ i, 37 ≤ i → i < 147 → st_ok i = true := st_up rfl st_lk37 st_kq38
theorem st_kq36 : ∀ i, 36 ≤ i → i < 147 → st_ok i = true := st_up rfl st_lk36 st_kq37
theorem st_kq35 : ∀ i, 35 ≤ i → i < 147 → st_ok i = true := st_up rfl st_lk35 st_kq36
theorem st_kq34 : ∀ i, 34 ≤ i → i < 147 → st_ok i = true := st_up rfl st_lk34 st_kq35
theorem st_kq33 : ∀ i, 33 ≤ i → i < 147 → st_ok i = true := st_up rfl st_lk33 st_kq34
theorem st_kq32 : ∀ i, 32 ≤ i → i < 147 → st_ok i = true := st_up rfl st_lk32 st_kq33
theorem st_kq31 : ∀ i, 31 ≤ i → i < 147 → st_ok i = true := st_up rfl st_lk31 st_kq32
theorem st_kq30 : ∀ i, 30 ≤ i → i < 147 → st_ok i = true := st_up rfl st_lk30 st_kq31
theorem st_kq29 : ∀ i, 29 ≤ i → i < 147 → st_ok i = true := st_up rfl st_lk29 st_kq30
theorem st_kq28 : ∀ i, 28 ≤ i → i < 147 → st_ok i = true := st_up rfl st_lk28 st_kq29
theorem st_kq27 : ∀ i, 27 ≤ i → i < 147 → st_ok i = true := st_up rfl st_lk27 st_kq28
theorem st_kq26 : ∀ i, 26 ≤ i → i < 147 → st_ok i = true := st_up rfl st_lk26 st_kq27
theorem st_kq25 : ∀ i, 25 ≤ i → i < 147 → st_ok i = true := st_up rfl st_lk25 st_kq26
theorem st_kq24 : ∀ i, 24 ≤ i → i < 147 → st_ok i = true := st_up rfl st_lk24 st_kq25
theorem st_kq23 : ∀ i, 23 ≤ i → i < 147 → st_ok i = true := st_up rfl st_lk23 st_kq24
theorem st_kq22 : ∀ i, 22 ≤ i → i < 147 → st_ok i = true := st_up rfl st_lk22 st_kq23
theorem st_kq21 : ∀ i, 21 ≤ i → i < 147 → st_ok i = true := st_up rfl st_lk21 st_kq22
theorem st_kq20 : ∀ i, 20 ≤ i → i < 147 → st_ok i = true := st_up rfl st_lk20 st_kq21
theorem st_kq19 : ∀ i, 19 ≤ i → i < 147 → st_ok i = true := st_up rfl st_lk19 st_kq20
theorem st_kq18 : ∀ i, 18 ≤ i → i < 147 → st_ok i = true := st_up rfl st_lk18 st_kq19
theorem st_kq17 : ∀ i, 17 ≤ i → i < 147 → st_ok i = true := st_up rfl st_lk17 st_kq18
theorem st_kq16 : ∀ i, 16 ≤ i → i < 147 → st_ok i = true := st_up rfl st_lk16 st_kq17
theorem st_kq15 : ∀ i, 15 ≤ i → i < 147 → st_ok i = true := st_up rfl st_lk15 st_kq16
theorem st_kq14 : ∀ i, 14 ≤ i → i < 147 → st_ok i = true := st_up rfl st_lk14 st_kq15
theorem st_kq13 : ∀ i, 13 ≤ i → i < 147 → st_ok i = true := st_up rfl st_lk13 st_kq14
theorem st_kq12 : ∀ i, 12 ≤ i → i < 147 → st_ok i = true := st_up rfl st_lk12 st_kq13
theorem st_kq11 : ∀ i, 11 ≤ i → i < 147 → st_ok i = true := st_up rfl st_lk11 st_kq12
theorem st_kq10 : ∀ i, 10 ≤ i → i < 147 → st_ok i = true := st_up rfl st_lk10 st_kq11
theorem st_kq9 : ∀ i, 9 ≤ i → i < 147 → st_ok i = true := st_up rfl st_lk9 st_kq10
theorem st_kq8 : ∀ i, 8 ≤ i → i < 147 → st_ok i = true := st_up rfl st_lk8 st_kq9
theorem st_kq7 : ∀ i, 7 ≤ i → i < 147 → st_ok i = true := st_up rfl st_lk7 st_kq8
theorem st_kq6 : ∀ i, 6 ≤ i → i < 147 → st_ok i = true := st_up rfl st_lk6 st_kq7
theorem st_kq5 : ∀ i, 5 ≤ i → i < 147 → st_ok i = true := st_up rfl st_lk5 st_kq6
theorem st_kq4 : ∀ i, 4 ≤ i → i < 147 → st_ok i = true := st_up rfl st_lk4 st_kq5
theorem st_kq3 : ∀ i, 3 ≤ i → i < 147 → st_ok i = true := st_up rfl st_lk3 st_kq4
theorem st_kq2 : ∀ i, 2 ≤ i → i < 147 → st_ok i = true := st_up rfl st_lk2 st_kq3
theorem st_kq1 : ∀ i, 1 ≤ i → i < 147 → st_ok i = true := st_up rfl st_lk1 st_kq2
theorem st_gt {α : Type} (l : List α) (d : α) (i : Nat) (h : i < l.tail.length) : l.getD (i + 1) d = l.tail[i] := by
  cases l with
  | nil => exact absurd h (Nat.not_lt_zero _)
  | cons a l =>
    have h1 : i < l.length := h
    have e1 : (a :: l).getD (i + 1) d = (l[i]?).getD d := by rw [List.getD_eq_getElem?_getD, List.getElem?_cons_succ]
    rw [e1, List.getElem?_eq_getElem h1]
    all_goals rfl
set_option maxRecDepth 100000 in
theorem st_lawlen : mb_law.length = 147 := by decide +kernel
theorem st_chk_m : ma_chk code 12 9 mb_law.tail = true := by
  refine List.all_eq_true.mpr (fun x hx => ?_)
  obtain ⟨i, hi, rfl⟩ := List.getElem_of_mem hx
  have hi0 : i < mb_law.tail.length := hi
  have hlt : i + 1 < mb_law.length := by rw [List.length_tail] at hi; omega
  have h := st_kq1 (i + 1) (by omega) (by rw [← st_lawlen]; exact hlt)
  have e : st_blk (i + 1) = mb_law.tail[i] := st_gt mb_law (0, [], []) i hi0
  unfold st_ok at h
  rw [e] at h
  exact h
theorem st_at {pc : Nat} {x : List Bool × List ma_AI} (h : ma_at mb_law pc = some x) (h0 : pc ≠ 0) : ma_at mb_law.tail pc = some x := by
  have key : ∀ t : ma_Tb, (∀ y ys, t = y :: ys → y.1 = 0) → ma_at t pc = some x → ma_at t.tail pc = some x := by
    intro t ht h
    cases t with
    | nil => cases h
    | cons y ys =>
      unfold ma_at at h
      rw [ht y ys rfl, if_neg h0] at h
      exact h
  refine key mb_law (fun y ys hy => ?_) h
  have h1 := congrArg (fun t : ma_Tb => t.head?.map (·.1)) hy
  have h2 : (mb_law.head?.map (·.1)) = some 0 := rfl
  have h3 : some 0 = some y.1 := h2.symm.trans h1
  exact (Option.some.inj h3).symm
theorem st_b0 {O : ma_O} {E : ma_E} {x : List Bool × List ma_AI} {ls st : List ma_V} {k : Nat} {μ : ma_M} {J : ma_J} {D : ma_Dn} (h : ma_at mb_law 0 = some x) (hd : ma_den O E x.2 0 ls st k μ J D) : False := by
  cases h
  exact hd
/-- the law's body on the small machine runs on the JVM (the bytes ahead of its loop are the constructors' part) -/
theorem st_run {p : Program} {l : Launch} {e : Env} {R : Room} {s : State} {m : MethodId} {args : Array Value} {below : List Frame} {meth : Method} {c : Code} {Q : State → Prop} {G : ma_G} {c0 s0 pc k d : Nat} {ls st : List ma_V} {μ : ma_M} {O : ma_O} {E : ma_E} {D : ma_Dn} (C : ma_Cx p s m args c G code 12 9) (hLn : 9 = c.maxLocals) (hLS : E.1 = G.LS ∧ G.LS ≤ 2048)
    (hR : d + 11 ≤ R.frames ∧ 43 * (d + 1) + 200 ≤ R.locals) (hRo : ma_Ro R E c0 s0) (hO : ∀ y as μ Post, O y as μ Post → ma_Ct l G d y as μ Post)
    (hX : ma_hX p l e R s m args below meth c Q E) (hE : ma_hE p l e R s m args below meth c Q G code 12 9 c0 s0 E D) (h : ma_run O E (ma_at mb_law) D pc ls st k μ) : ma_W p l e R s m args below meth c Q G 9 c0 s0 pc ls st k μ := by
  refine h (fun pc ls st k μ => ma_W p l e R s m args below meth c Q G 9 c0 s0 pc ls st k μ) (fun pc b ls st k μ hb hd => ?_)
  by_cases h0 : pc = 0
  · subst h0
    exact (st_b0 hb hd).elim
  · obtain ⟨h1, h2⟩ := ma_chk_at st_chk_m (st_at hb h0)
    have h3 := ma_s_den C hLn hLS hR hRo hO hX hE (fun _ _ _ _ _ z => z) b.2 pc _ st k μ h2 hd
    intro H locs als vs hH hS hL hR9
    exact h3 H locs als vs hH hS (hL.msk h1) hR9
