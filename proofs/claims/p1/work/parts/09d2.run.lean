/-! the symbolic runs themselves: printed by mk09.py -/
set_option maxRecDepth 1000000 in
theorem sT_6_35 : sGo 6 100000 35 39 = true := by decide +kernel
set_option maxRecDepth 1000000 in
theorem sT_6_40 : sGo 6 100000 40 43 = true := by decide +kernel
