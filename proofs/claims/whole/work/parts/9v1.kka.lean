/-! the law's body: its blocks behind the start are what the bytes say; it runs on the JVM -/
def st_blk (i : Nat) : Nat × List Bool × List ma_AI := mb_law.getD i (0, [], [])
def st_ok (i : Nat) : Bool := decide ((st_blk i).2.1.length = 9) && ma_okB code 12 (st_blk i).2.2 (st_blk i).1
set_option maxRecDepth 100000 in
theorem st_lk1 : st_ok 1 = true := by decide +kernel
set_option maxRecDepth 100000 in
theorem st_lk2 : st_ok 2 = true := by decide +kernel
set_option maxRecDepth 100000 in
theorem st_lk3 : st_ok 3 = true := by decide +kernel
set_option maxRecDepth 100000 in
theorem st_lk4 : st_ok 4 = true := by decide +kernel
set_option maxRecDepth 100000 in
theorem st_lk5 : st_ok 5 = true := by decide +kernel
set_option maxRecDepth 100000 in
theorem st_lk6 : st_ok 6 = true := by decide +kernel
set_option maxRecDepth 100000 in
theorem st_lk7 : st_ok 7 = true := by decide +kernel
set_option maxRecDepth 100000 in
theorem st_lk8 : st_ok 8 = true := by decide +kernel
set_option maxRecDepth 100000 in
theorem st_lk9 : st_ok 9 = true := by decide +kernel
set_option maxRecDepth 100000 in
theorem st_lk10 : st_ok 10 = true := by decide +kernel
set_option maxRecDepth 100000 in
theorem st_lk11 : st_ok 11 = true := by decide +kernel
set_option maxRecDepth 100000 in
theorem st_lk12 : st_ok 12 = true := by decide +kernel
set_option maxRecDepth 100000 in
theorem st_lk13 : st_ok 13 = true := by decide +kernel
set_option maxRecDepth 100000 in
theorem st_lk14 : st_ok 14 = true := by decide +kernel
set_option maxRecDepth 100000 in
theorem st_lk15 : st_ok 15 = true := by decide +kernel
set_option maxRecDepth 100000 in
theorem st_lk16 : st_ok 16 = true := by decide +kernel
set_option maxRecDepth 100000 in
theorem st_lk17 : st_ok 17 = true := by decide +kernel
set_option maxRecDepth 100000 in
theorem st_lk18 : st_ok 18 = true := by decide +kernel
set_option maxRecDepth 100000 in
theorem st_lk19 : st_ok 19 = true := by decide +kernel
set_option maxRecDepth 100000 in
theorem st_lk20 : st_ok 20 = true := by decide +kernel
set_option maxRecDepth 100000 in
theorem st_lk21 : st_ok 21 = true := by decide +kernel
set_option maxRecDepth 100000 in
theorem st_lk22 : st_ok 22 = true := by decide +kernel
set_option maxRecDepth 100000 in
theorem st_lk23 : st_ok 23 = true := by decide +kernel
set_option maxRecDepth 100000 in
theorem st_lk24 : st_ok 24 = true := by decide +kernel
set_option maxRecDepth 100000 in
theorem st_lk25 : st_ok 25 = true := by decide +kernel
set_option maxRecDepth 100000 in
theorem st_lk26 : st_ok 26 = true := by decide +kernel
set_option maxRecDepth 100000 in
theorem st_lk27 : st_ok 27 = true := by decide +kernel
set_option maxRecDepth 100000 in
theorem st_lk28 : st_ok 28 = true := by decide +kernel
set_option maxRecDepth 100000 in
theorem st_lk29 : st_ok 29 = true := by decide +kernel
set_option maxRecDepth 100000 in
theorem st_lk30 : st_ok 30 = true := by decide +kernel
set_option maxRecDepth 100000 in
theorem st_lk31 : st_ok 31 = true := by decide +kernel
set_option maxRecDepth 100000 in
theorem st_lk32 : st_ok 32 = true := by decide +kernel
set_option maxRecDepth 100000 in
theorem st_lk33 : st_ok 33 = true := by decide +kernel
set_option maxRecDepth 100000 in
theorem st_lk34 : st_ok 34 = true := by decide +kernel
set_option maxRecDepth 100000 in
theorem st_lk35 : st_ok 35 = true := by decide +kernel
set_option maxRecDepth 100000 in
theorem st_lk36 : st_ok 36 = true := by decide +kernel
set_option maxRecDepth 100000 in
theorem st_lk37 : st_ok 37 = true := by decide +kernel
set_option maxRecDepth 100000 in
theorem st_lk38 : st_ok 38 = true := by decide +kernel
set_option maxRecDepth 100000 in
theorem st_lk39 : st_ok 39 = true := by decide +kernel
set_option maxRecDepth 100000 in
theorem st_lk40 : st_ok 40 = true := by decide +kernel
set_option maxRecDepth 100000 in
theorem st_lk41 : st_ok 41 = true := by decide +kernel
set_option maxRecDepth 100000 in
theorem st_lk42 : st_ok 42 = true := by decide +kernel
set_option maxRecDepth 100000 in
theorem st_lk43 : st_ok 43 = true := by decide +kernel
set_option maxRecDepth 100000 in
theorem st_lk44 : st_ok 44 = true := by decide +kernel
set_option maxRecDepth 100000 in
theorem st_lk45 : st_ok 45 = true := by decide +kernel
set_option maxRecDepth 100000 in
theorem st_lk46 : st_ok 46 = true := by decide +kernel
set_option maxRecDepth 100000 in
theorem st_lk47 : st_ok 47 = true := by decide +kernel
set_option maxRecDepth 100000 in
theorem st_lk48 : st_ok 48 = true := by decide +kernel
set_option maxRecDepth 100000 in
theorem st_lk49 : st_ok 49 = true := by decide +kernel
