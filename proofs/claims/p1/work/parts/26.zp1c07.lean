set_option maxRecDepth 100000 in
theorem zok953 : zok 5 953 = true := by decide +kernel
set_option maxRecDepth 100000 in
theorem zok1009 : zok 5 1009 = true := by decide +kernel
