/-! the symbolic runs themselves: printed by mk09.py -/
set_option maxRecDepth 1000000 in
theorem sT_6_44 : sGo 6 100000 44 51 = true := by decide +kernel
set_option maxRecDepth 1000000 in
theorem sT_6_52 : sGo 6 100000 52 57 = true := by decide +kernel
