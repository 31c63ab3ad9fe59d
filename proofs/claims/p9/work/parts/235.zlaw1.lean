theorem zl5 : ((List.range 100).all fun i => zchk1 zM259 (500 + i)) = true := by decide +kernel
theorem zl6 : ((List.range 100).all fun i => zchk1 zM259 (600 + i)) = true := by decide +kernel
theorem zl7 : ((List.range 100).all fun i => zchk1 zM259 (700 + i)) = true := by decide +kernel
theorem zl8 : ((List.range 100).all fun i => zchk1 zM259 (800 + i)) = true := by decide +kernel
theorem zl9 : ((List.range 47).all fun i => zchk1 zM259 (900 + i)) = true := by decide +kernel
