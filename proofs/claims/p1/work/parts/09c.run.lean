/-! the symbolic runs themselves: printed by mk09.py -/
set_option maxRecDepth 1000000 in
theorem sT_6_20 : sGo 6 100000 20 27 = true := by decide +kernel
set_option maxRecDepth 1000000 in
theorem sT_6_28 : sGo 6 100000 28 29 = true := by decide +kernel
set_option maxRecDepth 1000000 in
theorem sT_6_30 : sGo 6 100000 30 30 = true := by decide +kernel
set_option maxRecDepth 1000000 in
theorem sT_6_31 : sGo 6 100000 31 31 = true := by decide +kernel
