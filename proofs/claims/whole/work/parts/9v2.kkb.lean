/-! the law's blocks, on -/
set_option maxRecDepth 100000 in
theorem st_lk50 : st_ok 50 = true := by decide +kernel
set_option maxRecDepth 100000 in
theorem st_lk51 : st_ok 51 = true := by decide +kernel
set_option maxRecDepth 100000 in
theorem st_lk52 : st_ok 52 = true := by decide +kernel
set_option maxRecDepth 100000 in
theorem st_lk53 : st_ok 53 = true := by decide +kernel
set_option maxRecDepth 100000 in
theorem st_lk54 : st_ok 54 = true := by decide +kernel
set_option maxRecDepth 100000 in
theorem st_lk55 : st_ok 55 = true := by decide +kernel
set_option maxRecDepth 100000 in
theorem st_lk56 : st_ok 56 = true := by decide +kernel
set_option maxRecDepth 100000 in
theorem st_lk57 : st_ok 57 = true := by decide +kernel
set_option maxRecDepth 100000 in
theorem st_lk58 : st_ok 58 = true := by decide +kernel
set_option maxRecDepth 100000 in
theorem st_lk59 : st_ok 59 = true := by decide +kernel
set_option maxRecDepth 100000 in
theorem st_lk60 : st_ok 60 = true := by decide +kernel
set_option maxRecDepth 100000 in
theorem st_lk61 : st_ok 61 = true := by decide +kernel
set_option maxRecDepth 100000 in
theorem st_lk62 : st_ok 62 = true := by decide +kernel
set_option maxRecDepth 100000 in
theorem st_lk63 : st_ok 63 = true := by decide +kernel
set_option maxRecDepth 100000 in
theorem st_lk64 : st_ok 64 = true := by decide +kernel
set_option maxRecDepth 100000 in
theorem st_lk65 : st_ok 65 = true := by decide +kernel
set_option maxRecDepth 100000 in
theorem st_lk66 : st_ok 66 = true := by decide +kernel
set_option maxRecDepth 100000 in
theorem st_lk67 : st_ok 67 = true := by decide +kernel
set_option maxRecDepth 100000 in
theorem st_lk68 : st_ok 68 = true := by decide +kernel
set_option maxRecDepth 100000 in
theorem st_lk69 : st_ok 69 = true := by decide +kernel
set_option maxRecDepth 100000 in
theorem st_lk70 : st_ok 70 = true := by decide +kernel
set_option maxRecDepth 100000 in
theorem st_lk71 : st_ok 71 = true := by decide +kernel
set_option maxRecDepth 100000 in
theorem st_lk72 : st_ok 72 = true := by decide +kernel
set_option maxRecDepth 100000 in
theorem st_lk73 : st_ok 73 = true := by decide +kernel
set_option maxRecDepth 100000 in
theorem st_lk74 : st_ok 74 = true := by decide +kernel
set_option maxRecDepth 100000 in
theorem st_lk75 : st_ok 75 = true := by decide +kernel
set_option maxRecDepth 100000 in
theorem st_lk76 : st_ok 76 = true := by decide +kernel
set_option maxRecDepth 100000 in
theorem st_lk77 : st_ok 77 = true := by decide +kernel
set_option maxRecDepth 100000 in
theorem st_lk78 : st_ok 78 = true := by decide +kernel
set_option maxRecDepth 100000 in
theorem st_lk79 : st_ok 79 = true := by decide +kernel
set_option maxRecDepth 100000 in
theorem st_lk80 : st_ok 80 = true := by decide +kernel
set_option maxRecDepth 100000 in
theorem st_lk81 : st_ok 81 = true := by decide +kernel
set_option maxRecDepth 100000 in
theorem st_lk82 : st_ok 82 = true := by decide +kernel
set_option maxRecDepth 100000 in
theorem st_lk83 : st_ok 83 = true := by decide +kernel
set_option maxRecDepth 100000 in
theorem st_lk84 : st_ok 84 = true := by decide +kernel
set_option maxRecDepth 100000 in
theorem st_lk85 : st_ok 85 = true := by decide +kernel
set_option maxRecDepth 100000 in
theorem st_lk86 : st_ok 86 = true := by decide +kernel
set_option maxRecDepth 100000 in
theorem st_lk87 : st_ok 87 = true := by decide +kernel
set_option maxRecDepth 100000 in
theorem st_lk88 : st_ok 88 = true := by decide +kernel
set_option maxRecDepth 100000 in
theorem st_lk89 : st_ok 89 = true := by decide +kernel
set_option maxRecDepth 100000 in
theorem st_lk90 : st_ok 90 = true := by decide +kernel
set_option maxRecDepth 100000 in
theorem st_lk91 : st_ok 91 = true := by decide +kernel
set_option maxRecDepth 100000 in
theorem st_lk92 : st_ok 92 = true := by decide +kernel
set_option maxRecDepth 100000 in
theorem st_lk93 : st_ok 93 = true := by decide +kernel
set_option maxRecDepth 100000 in
theorem st_lk94 : st_ok 94 = true := by decide +kernel
set_option maxRecDepth 100000 in
theorem st_lk95 : st_ok 95 = true := by decide +kernel
set_option maxRecDepth 100000 in
theorem st_lk96 : st_ok 96 = true := by decide +kernel
set_option maxRecDepth 100000 in
theorem st_lk97 : st_ok 97 = true := by decide +kernel
set_option maxRecDepth 100000 in
theorem st_lk98 : st_ok 98 = true := by decide +kernel
set_option maxRecDepth 100000 in
theorem st_lk99 : st_ok 99 = true := by decide +kernel
