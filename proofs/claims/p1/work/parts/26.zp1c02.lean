set_option maxRecDepth 100000 in
theorem zok479 : zok 5 479 = true := by decide +kernel
