set_option maxRecDepth 100000 in
theorem zok1240 : zok 5 1240 = true := by decide +kernel
set_option maxRecDepth 100000 in
theorem zok1300 : zok 5 1300 = true := by decide +kernel
set_option maxRecDepth 100000 in
theorem zok1313 : zok 5 1313 = true := by decide +kernel
set_option maxRecDepth 100000 in
theorem zok1369 : zok 5 1369 = true := by decide +kernel
