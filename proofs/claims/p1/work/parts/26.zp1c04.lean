set_option maxRecDepth 100000 in
theorem zok606 : zok 5 606 = true := by decide +kernel
