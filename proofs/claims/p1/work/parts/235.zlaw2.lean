theorem zl10 : ((List.range 100).all fun i => zchk1 zM259 (1000 + i)) = true := by decide +kernel
theorem zl11 : ((List.range 100).all fun i => zchk1 zM259 (1100 + i)) = true := by decide +kernel
theorem zl12 : ((List.range 100).all fun i => zchk1 zM259 (1200 + i)) = true := by decide +kernel
theorem zl13 : ((List.range 77).all fun i => zchk1 zM259 (1300 + i)) = true := by decide +kernel
