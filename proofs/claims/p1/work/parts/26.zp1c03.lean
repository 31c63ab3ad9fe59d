set_option maxRecDepth 100000 in
theorem zok546 : zok 5 546 = true := by decide +kernel
