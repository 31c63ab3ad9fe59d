set_option maxRecDepth 100000 in
theorem zok662 : zok 5 662 = true := by decide +kernel
set_option maxRecDepth 100000 in
theorem zok706 : zok 5 706 = true := by decide +kernel
set_option maxRecDepth 100000 in
theorem zok717 : zok 5 717 = true := by decide +kernel
set_option maxRecDepth 100000 in
theorem zok793 : zok 5 793 = true := by decide +kernel
