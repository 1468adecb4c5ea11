/-! the law's blocks, to the end -/
set_option maxRecDepth 100000 in
theorem st_k100 : st_ok 100 = true := by decide +kernel
set_option maxRecDepth 100000 in
theorem st_k101 : st_ok 101 = true := by decide +kernel
set_option maxRecDepth 100000 in
theorem st_k102 : st_ok 102 = true := by decide +kernel
set_option maxRecDepth 100000 in
theorem st_k103 : st_ok 103 = true := by decide +kernel
set_option maxRecDepth 100000 in
theorem st_k104 : st_ok 104 = true := by decide +kernel
set_option maxRecDepth 100000 in
theorem st_k105 : st_ok 105 = true := by decide +kernel
set_option maxRecDepth 100000 in
theorem st_k106 : st_ok 106 = true := by decide +kernel
set_option maxRecDepth 100000 in
theorem st_k107 : st_ok 107 = true := by decide +kernel
set_option maxRecDepth 100000 in
theorem st_k108 : st_ok 108 = true := by decide +kernel
set_option maxRecDepth 100000 in
theorem st_k109 : st_ok 109 = true := by decide +kernel
set_option maxRecDepth 100000 in
theorem st_k110 : st_ok 110 = true := by decide +kernel
set_option maxRecDepth 100000 in
theorem st_k111 : st_ok 111 = true := by decide +kernel
set_option maxRecDepth 100000 in
theorem st_k112 : st_ok 112 = true := by decide +kernel
set_option maxRecDepth 100000 in
theorem st_k113 : st_ok 113 = true := by decide +kernel
set_option maxRecDepth 100000 in
theorem st_k114 : st_ok 114 = true := by decide +kernel
set_option maxRecDepth 100000 in
theorem st_k115 : st_ok 115 = true := by decide +kernel
set_option maxRecDepth 100000 in
theorem st_k116 : st_ok 116 = true := by decide +kernel
set_option maxRecDepth 100000 in
theorem st_k117 : st_ok 117 = true := by decide +kernel
set_option maxRecDepth 100000 in
theorem st_k118 : st_ok 118 = true := by decide +kernel
set_option maxRecDepth 100000 in
theorem st_k119 : st_ok 119 = true := by decide +kernel
set_option maxRecDepth 100000 in
theorem st_k120 : st_ok 120 = true := by decide +kernel
set_option maxRecDepth 100000 in
theorem st_k121 : st_ok 121 = true := by decide +kernel
set_option maxRecDepth 100000 in
theorem st_k122 : st_ok 122 = true := by decide +kernel
set_option maxRecDepth 100000 in
theorem st_k123 : st_ok 123 = true := by decide +kernel
set_option maxRecDepth 100000 in
theorem st_k124 : st_ok 124 = true := by decide +kernel
set_option maxRecDepth 100000 in
theorem st_k125 : st_ok 125 = true := by decide +kernel
set_option maxRecDepth 100000 in
theorem st_k126 : st_ok 126 = true := by decide +kernel
set_option maxRecDepth 100000 in
theorem st_k127 : st_ok 127 = true := by decide +kernel
set_option maxRecDepth 100000 in
theorem st_k128 : st_ok 128 = true := by decide +kernel
set_option maxRecDepth 100000 in
theorem st_k129 : st_ok 129 = true := by decide +kernel
set_option maxRecDepth 100000 in
theorem st_k130 : st_ok 130 = true := by decide +kernel
set_option maxRecDepth 100000 in
theorem st_k131 : st_ok 131 = true := by decide +kernel
set_option maxRecDepth 100000 in
theorem st_k132 : st_ok 132 = true := by decide +kernel
set_option maxRecDepth 100000 in
theorem st_k133 : st_ok 133 = true := by decide +kernel
set_option maxRecDepth 100000 in
theorem st_k134 : st_ok 134 = true := by decide +kernel
set_option maxRecDepth 100000 in
theorem st_k135 : st_ok 135 = true := by decide +kernel
set_option maxRecDepth 100000 in
theorem st_k136 : st_ok 136 = true := by decide +kernel
set_option maxRecDepth 100000 in
theorem st_k137 : st_ok 137 = true := by decide +kernel
set_option maxRecDepth 100000 in
theorem st_k138 : st_ok 138 = true := by decide +kernel
set_option maxRecDepth 100000 in
theorem st_k139 : st_ok 139 = true := by decide +kernel
set_option maxRecDepth 100000 in
theorem st_k140 : st_ok 140 = true := by decide +kernel
set_option maxRecDepth 100000 in
theorem st_k141 : st_ok 141 = true := by decide +kernel
set_option maxRecDepth 100000 in
theorem st_k142 : st_ok 142 = true := by decide +kernel
set_option maxRecDepth 100000 in
theorem st_k143 : st_ok 143 = true := by decide +kernel
set_option maxRecDepth 100000 in
theorem st_k144 : st_ok 144 = true := by decide +kernel
set_option maxRecDepth 100000 in
theorem st_k145 : st_ok 145 = true := by decide +kernel
set_option maxRecDepth 100000 in
theorem st_k146 : st_ok 146 = true := by decide +kernel
