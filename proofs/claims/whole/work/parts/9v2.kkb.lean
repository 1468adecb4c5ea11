/-! the law's blocks, on -/
set_option maxRecDepth 100000 in
theorem st_k50 : st_ok 50 = true := by decide +kernel
set_option maxRecDepth 100000 in
theorem st_k51 : st_ok 51 = true := by decide +kernel
set_option maxRecDepth 100000 in
theorem st_k52 : st_ok 52 = true := by decide +kernel
set_option maxRecDepth 100000 in
theorem st_k53 : st_ok 53 = true := by decide +kernel
set_option maxRecDepth 100000 in
theorem st_k54 : st_ok 54 = true := by decide +kernel
set_option maxRecDepth 100000 in
theorem st_k55 : st_ok 55 = true := by decide +kernel
set_option maxRecDepth 100000 in
theorem st_k56 : st_ok 56 = true := by decide +kernel
set_option maxRecDepth 100000 in
theorem st_k57 : st_ok 57 = true := by decide +kernel
set_option maxRecDepth 100000 in
theorem st_k58 : st_ok 58 = true := by decide +kernel
set_option maxRecDepth 100000 in
theorem st_k59 : st_ok 59 = true := by decide +kernel
set_option maxRecDepth 100000 in
theorem st_k60 : st_ok 60 = true := by decide +kernel
set_option maxRecDepth 100000 in
theorem st_k61 : st_ok 61 = true := by decide +kernel
set_option maxRecDepth 100000 in
theorem st_k62 : st_ok 62 = true := by decide +kernel
set_option maxRecDepth 100000 in
theorem st_k63 : st_ok 63 = true := by decide +kernel
set_option maxRecDepth 100000 in
theorem st_k64 : st_ok 64 = true := by decide +kernel
set_option maxRecDepth 100000 in
theorem st_k65 : st_ok 65 = true := by decide +kernel
set_option maxRecDepth 100000 in
theorem st_k66 : st_ok 66 = true := by decide +kernel
set_option maxRecDepth 100000 in
theorem st_k67 : st_ok 67 = true := by decide +kernel
set_option maxRecDepth 100000 in
theorem st_k68 : st_ok 68 = true := by decide +kernel
set_option maxRecDepth 100000 in
theorem st_k69 : st_ok 69 = true := by decide +kernel
set_option maxRecDepth 100000 in
theorem st_k70 : st_ok 70 = true := by decide +kernel
set_option maxRecDepth 100000 in
theorem st_k71 : st_ok 71 = true := by decide +kernel
set_option maxRecDepth 100000 in
theorem st_k72 : st_ok 72 = true := by decide +kernel
set_option maxRecDepth 100000 in
theorem st_k73 : st_ok 73 = true := by decide +kernel
set_option maxRecDepth 100000 in
theorem st_k74 : st_ok 74 = true := by decide +kernel
set_option maxRecDepth 100000 in
theorem st_k75 : st_ok 75 = true := by decide +kernel
set_option maxRecDepth 100000 in
theorem st_k76 : st_ok 76 = true := by decide +kernel
set_option maxRecDepth 100000 in
theorem st_k77 : st_ok 77 = true := by decide +kernel
set_option maxRecDepth 100000 in
theorem st_k78 : st_ok 78 = true := by decide +kernel
set_option maxRecDepth 100000 in
theorem st_k79 : st_ok 79 = true := by decide +kernel
set_option maxRecDepth 100000 in
theorem st_k80 : st_ok 80 = true := by decide +kernel
set_option maxRecDepth 100000 in
theorem st_k81 : st_ok 81 = true := by decide +kernel
set_option maxRecDepth 100000 in
theorem st_k82 : st_ok 82 = true := by decide +kernel
set_option maxRecDepth 100000 in
theorem st_k83 : st_ok 83 = true := by decide +kernel
set_option maxRecDepth 100000 in
theorem st_k84 : st_ok 84 = true := by decide +kernel
set_option maxRecDepth 100000 in
theorem st_k85 : st_ok 85 = true := by decide +kernel
set_option maxRecDepth 100000 in
theorem st_k86 : st_ok 86 = true := by decide +kernel
set_option maxRecDepth 100000 in
theorem st_k87 : st_ok 87 = true := by decide +kernel
set_option maxRecDepth 100000 in
theorem st_k88 : st_ok 88 = true := by decide +kernel
set_option maxRecDepth 100000 in
theorem st_k89 : st_ok 89 = true := by decide +kernel
set_option maxRecDepth 100000 in
theorem st_k90 : st_ok 90 = true := by decide +kernel
set_option maxRecDepth 100000 in
theorem st_k91 : st_ok 91 = true := by decide +kernel
set_option maxRecDepth 100000 in
theorem st_k92 : st_ok 92 = true := by decide +kernel
set_option maxRecDepth 100000 in
theorem st_k93 : st_ok 93 = true := by decide +kernel
set_option maxRecDepth 100000 in
theorem st_k94 : st_ok 94 = true := by decide +kernel
set_option maxRecDepth 100000 in
theorem st_k95 : st_ok 95 = true := by decide +kernel
set_option maxRecDepth 100000 in
theorem st_k96 : st_ok 96 = true := by decide +kernel
set_option maxRecDepth 100000 in
theorem st_k97 : st_ok 97 = true := by decide +kernel
set_option maxRecDepth 100000 in
theorem st_k98 : st_ok 98 = true := by decide +kernel
set_option maxRecDepth 100000 in
theorem st_k99 : st_ok 99 = true := by decide +kernel
