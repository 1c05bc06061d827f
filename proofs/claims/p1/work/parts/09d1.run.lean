/-! the symbolic runs themselves: printed by mk09.py -/
set_option maxRecDepth 1000000 in
theorem sT_6_32 : sGo 6 100000 32 33 = true := by decide +kernel
