set_option maxRecDepth 100000 in
theorem zok1173 : zok 5 1173 = true := by decide +kernel
