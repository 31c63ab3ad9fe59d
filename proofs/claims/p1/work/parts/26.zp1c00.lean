set_option maxRecDepth 100000 in
theorem zok132 : zok 5 132 = true := by decide +kernel
