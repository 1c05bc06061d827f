/-! the symbolic runs themselves: printed by mk09.py -/
set_option maxRecDepth 1000000 in
theorem sT_0 : sGo 0 100000 0 63 = true := by decide +kernel
set_option maxRecDepth 1000000 in
theorem sT_1 : sGo 1 100000 0 63 = true := by decide +kernel
set_option maxRecDepth 1000000 in
theorem sT_2 : sGo 2 100000 0 63 = true := by decide +kernel
set_option maxRecDepth 1000000 in
theorem sT_3 : sGo 3 100000 0 63 = true := by decide +kernel
set_option maxRecDepth 1000000 in
theorem sT_4 : sGo 4 100000 0 63 = true := by decide +kernel
set_option maxRecDepth 1000000 in
theorem sT_5 : sGo 5 100000 0 63 = true := by decide +kernel
set_option maxRecDepth 1000000 in
theorem sT_6_0 : sGo 6 100000 0 0 = true := by decide +kernel
set_option maxRecDepth 1000000 in
theorem sT_6_1 : sGo 6 100000 1 9 = true := by decide +kernel
set_option maxRecDepth 1000000 in
theorem sT_6_10 : sGo 6 100000 10 13 = true := by decide +kernel
set_option maxRecDepth 1000000 in
theorem sT_6_14 : sGo 6 100000 14 18 = true := by decide +kernel
set_option maxRecDepth 1000000 in
theorem sT_6_19 : sGo 6 100000 19 19 = true := by decide +kernel
