/-! the symbolic runs themselves: printed by mk09.py -/
set_option maxRecDepth 1000000 in
theorem sT_6_58 : sGo 6 100000 58 58 = true := by decide +kernel
set_option maxRecDepth 1000000 in
theorem sT_6_59 : sGo 6 100000 59 59 = true := by decide +kernel
set_option maxRecDepth 1000000 in
theorem sT_6_60 : sGo 6 100000 60 63 = true := by decide +kernel
