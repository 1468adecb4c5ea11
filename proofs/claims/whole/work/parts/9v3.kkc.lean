/-! the law's blocks, to the end -/
set_option maxRecDepth 100000 in
theorem st_lk100 : st_ok 100 = true := by decide +kernel
set_option maxRecDepth 100000 in
theorem st_lk101 : st_ok 101 = true := by decide +kernel
set_option maxRecDepth 100000 in
theorem st_lk102 : st_ok 102 = true := by decide +kernel
set_option maxRecDepth 100000 in
theorem st_lk103 : st_ok 103 = true := by decide +kernel
set_option maxRecDepth 100000 in
theorem st_lk104 : st_ok 104 = true := by decide +kernel
set_option maxRecDepth 100000 in
theorem st_lk105 : st_ok 105 = true := by decide +kernel
set_option maxRecDepth 100000 in
theorem st_lk106 : st_ok 106 = true := by decide +kernel
set_option maxRecDepth 100000 in
theorem st_lk107 : st_ok 107 = true := by decide +kernel
set_option maxRecDepth 100000 in
theorem st_lk108 : st_ok 108 = true := by decide +kernel
set_option maxRecDepth 100000 in
theorem st_lk109 : st_ok 109 = true := by decide +kernel
set_option maxRecDepth 100000 in
theorem st_lk110 : st_ok 110 = true := by decide +kernel
set_option maxRecDepth 100000 in
theorem st_lk111 : st_ok 111 = true := by decide +kernel
set_option maxRecDepth 100000 in
theorem st_lk112 : st_ok 112 = true := by decide +kernel
set_option maxRecDepth 100000 in
theorem st_lk113 : st_ok 113 = true := by decide +kernel
set_option maxRecDepth 100000 in
theorem st_lk114 : st_ok 114 = true := by decide +kernel
set_option maxRecDepth 100000 in
theorem st_lk115 : st_ok 115 = true := by decide +kernel
set_option maxRecDepth 100000 in
theorem st_lk116 : st_ok 116 = true := by decide +kernel
set_option maxRecDepth 100000 in
theorem st_lk117 : st_ok 117 = true := by decide +kernel
set_option maxRecDepth 100000 in
theorem st_lk118 : st_ok 118 = true := by decide +kernel
set_option maxRecDepth 100000 in
theorem st_lk119 : st_ok 119 = true := by decide +kernel
set_option maxRecDepth 100000 in
theorem st_lk120 : st_ok 120 = true := by decide +kernel
set_option maxRecDepth 100000 in
theorem st_lk121 : st_ok 121 = true := by decide +kernel
set_option maxRecDepth 100000 in
theorem st_lk122 : st_ok 122 = true := by decide +kernel
set_option maxRecDepth 100000 in
theorem st_lk123 : st_ok 123 = true := by decide +kernel
set_option maxRecDepth 100000 in
theorem st_lk124 : st_ok 124 = true := by decide +kernel
set_option maxRecDepth 100000 in
theorem st_lk125 : st_ok 125 = true := by decide +kernel
set_option maxRecDepth 100000 in
theorem st_lk126 : st_ok 126 = true := by decide +kernel
set_option maxRecDepth 100000 in
theorem st_lk127 : st_ok 127 = true := by decide +kernel
set_option maxRecDepth 100000 in
theorem st_lk128 : st_ok 128 = true := by decide +kernel
set_option maxRecDepth 100000 in
theorem st_lk129 : st_ok 129 = true := by decide +kernel
set_option maxRecDepth 100000 in
theorem st_lk130 : st_ok 130 = true := by decide +kernel
set_option maxRecDepth 100000 in
theorem st_lk131 : st_ok 131 = true := by decide +kernel
set_option maxRecDepth 100000 in
theorem st_lk132 : st_ok 132 = true := by decide +kernel
set_option maxRecDepth 100000 in
theorem st_lk133 : st_ok 133 = true := by decide +kernel
set_option maxRecDepth 100000 in
theorem st_lk134 : st_ok 134 = true := by decide +kernel
set_option maxRecDepth 100000 in
theorem st_lk135 : st_ok 135 = true := by decide +kernel
set_option maxRecDepth 100000 in
theorem st_lk136 : st_ok 136 = true := by decide +kernel
set_option maxRecDepth 100000 in
theorem st_lk137 : st_ok 137 = true := by decide +kernel
set_option maxRecDepth 100000 in
theorem st_lk138 : st_ok 138 = true := by decide +kernel
set_option maxRecDepth 100000 in
theorem st_lk139 : st_ok 139 = true := by decide +kernel
set_option maxRecDepth 100000 in
theorem st_lk140 : st_ok 140 = true := by decide +kernel
set_option maxRecDepth 100000 in
theorem st_lk141 : st_ok 141 = true := by decide +kernel
set_option maxRecDepth 100000 in
theorem st_lk142 : st_ok 142 = true := by decide +kernel
set_option maxRecDepth 100000 in
theorem st_lk143 : st_ok 143 = true := by decide +kernel
set_option maxRecDepth 100000 in
theorem st_lk144 : st_ok 144 = true := by decide +kernel
set_option maxRecDepth 100000 in
theorem st_lk145 : st_ok 145 = true := by decide +kernel
set_option maxRecDepth 100000 in
theorem st_lk146 : st_ok 146 = true := by decide +kernel
