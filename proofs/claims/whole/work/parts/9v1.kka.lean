/-! the law's body: its blocks behind the start are what the bytes say; it runs on the JVM -/
def st_blk (i : Nat) : Nat × List Bool × List ma_AI := mb_law.getD i (0, [], [])
def st_ok (i : Nat) : Bool := decide ((st_blk i).2.1.length = 9) && ma_okB code 12 (st_blk i).2.2 (st_blk i).1
set_option maxRecDepth 100000 in
theorem st_k1 : st_ok 1 = true := by decide +kernel
set_option maxRecDepth 100000 in
theorem st_k2 : st_ok 2 = true := by decide +kernel
set_option maxRecDepth 100000 in
theorem st_k3 : st_ok 3 = true := by decide +kernel
set_option maxRecDepth 100000 in
theorem st_k4 : st_ok 4 = true := by decide +kernel
set_option maxRecDepth 100000 in
theorem st_k5 : st_ok 5 = true := by decide +kernel
set_option maxRecDepth 100000 in
theorem st_k6 : st_ok 6 = true := by decide +kernel
set_option maxRecDepth 100000 in
theorem st_k7 : st_ok 7 = true := by decide +kernel
set_option maxRecDepth 100000 in
theorem st_k8 : st_ok 8 = true := by decide +kernel
set_option maxRecDepth 100000 in
theorem st_k9 : st_ok 9 = true := by decide +kernel
set_option maxRecDepth 100000 in
theorem st_k10 : st_ok 10 = true := by decide +kernel
set_option maxRecDepth 100000 in
theorem st_k11 : st_ok 11 = true := by decide +kernel
set_option maxRecDepth 100000 in
theorem st_k12 : st_ok 12 = true := by decide +kernel
set_option maxRecDepth 100000 in
theorem st_k13 : st_ok 13 = true := by decide +kernel
set_option maxRecDepth 100000 in
theorem st_k14 : st_ok 14 = true := by decide +kernel
set_option maxRecDepth 100000 in
theorem st_k15 : st_ok 15 = true := by decide +kernel
set_option maxRecDepth 100000 in
theorem st_k16 : st_ok 16 = true := by decide +kernel
set_option maxRecDepth 100000 in
theorem st_k17 : st_ok 17 = true := by decide +kernel
set_option maxRecDepth 100000 in
theorem st_k18 : st_ok 18 = true := by decide +kernel
set_option maxRecDepth 100000 in
theorem st_k19 : st_ok 19 = true := by decide +kernel
set_option maxRecDepth 100000 in
theorem st_k20 : st_ok 20 = true := by decide +kernel
set_option maxRecDepth 100000 in
theorem st_k21 : st_ok 21 = true := by decide +kernel
set_option maxRecDepth 100000 in
theorem st_k22 : st_ok 22 = true := by decide +kernel
set_option maxRecDepth 100000 in
theorem st_k23 : st_ok 23 = true := by decide +kernel
set_option maxRecDepth 100000 in
theorem st_k24 : st_ok 24 = true := by decide +kernel
set_option maxRecDepth 100000 in
theorem st_k25 : st_ok 25 = true := by decide +kernel
set_option maxRecDepth 100000 in
theorem st_k26 : st_ok 26 = true := by decide +kernel
set_option maxRecDepth 100000 in
theorem st_k27 : st_ok 27 = true := by decide +kernel
set_option maxRecDepth 100000 in
theorem st_k28 : st_ok 28 = true := by decide +kernel
set_option maxRecDepth 100000 in
theorem st_k29 : st_ok 29 = true := by decide +kernel
set_option maxRecDepth 100000 in
theorem st_k30 : st_ok 30 = true := by decide +kernel
set_option maxRecDepth 100000 in
theorem st_k31 : st_ok 31 = true := by decide +kernel
set_option maxRecDepth 100000 in
theorem st_k32 : st_ok 32 = true := by decide +kernel
set_option maxRecDepth 100000 in
theorem st_k33 : st_ok 33 = true := by decide +kernel
set_option maxRecDepth 100000 in
theorem st_k34 : st_ok 34 = true := by decide +kernel
set_option maxRecDepth 100000 in
theorem st_k35 : st_ok 35 = true := by decide +kernel
set_option maxRecDepth 100000 in
theorem st_k36 : st_ok 36 = true := by decide +kernel
set_option maxRecDepth 100000 in
theorem st_k37 : st_ok 37 = true := by decide +kernel
set_option maxRecDepth 100000 in
theorem st_k38 : st_ok 38 = true := by decide +kernel
set_option maxRecDepth 100000 in
theorem st_k39 : st_ok 39 = true := by decide +kernel
set_option maxRecDepth 100000 in
theorem st_k40 : st_ok 40 = true := by decide +kernel
set_option maxRecDepth 100000 in
theorem st_k41 : st_ok 41 = true := by decide +kernel
set_option maxRecDepth 100000 in
theorem st_k42 : st_ok 42 = true := by decide +kernel
set_option maxRecDepth 100000 in
theorem st_k43 : st_ok 43 = true := by decide +kernel
set_option maxRecDepth 100000 in
theorem st_k44 : st_ok 44 = true := by decide +kernel
set_option maxRecDepth 100000 in
theorem st_k45 : st_ok 45 = true := by decide +kernel
set_option maxRecDepth 100000 in
theorem st_k46 : st_ok 46 = true := by decide +kernel
set_option maxRecDepth 100000 in
theorem st_k47 : st_ok 47 = true := by decide +kernel
set_option maxRecDepth 100000 in
theorem st_k48 : st_ok 48 = true := by decide +kernel
set_option maxRecDepth 100000 in
theorem st_k49 : st_ok 49 = true := by decide +kernel
