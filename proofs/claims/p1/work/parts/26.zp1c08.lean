set_option maxRecDepth 100000 in
theorem zok1065 : zok 5 1065 = true := by decide +kernel
