theorem zk0 : [zM0, zM1, zM2, zM3, zM4, zM5, zM6, zM7, zM8, zM9, zM10, zM11].all zchk = true := by decide +kernel
theorem zk1 : [zM12, zM13, zM14, zM15, zM16, zM17, zM18, zM19, zM20, zM21, zM22, zM23].all zchk = true := by decide +kernel
theorem zk2 : [zM24, zM25, zM26, zM27, zM28, zM29, zM30, zM31, zM32, zM33, zM34, zM35].all zchk = true := by decide +kernel
