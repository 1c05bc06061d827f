/-! the symbolic runs themselves: printed by mk09.py -/
set_option maxRecDepth 1000000 in
theorem sT_6_34b : sGo1 6 100000 34 34 2147483649 4294967295 = true := by decide +kernel
