set_option maxRecDepth 100000 in
theorem zok260 : zok 5 260 = true := by decide +kernel
set_option maxRecDepth 100000 in
theorem zok316 : zok 5 316 = true := by decide +kernel
set_option maxRecDepth 100000 in
theorem zok379 : zok 5 379 = true := by decide +kernel
set_option maxRecDepth 100000 in
theorem zok435 : zok 5 435 = true := by decide +kernel
