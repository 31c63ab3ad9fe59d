set_option maxRecDepth 100000 in
theorem zok861 : zok 5 861 = true := by decide +kernel
