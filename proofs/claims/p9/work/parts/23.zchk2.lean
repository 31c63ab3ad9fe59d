theorem zk6 : [zM72, zM73, zM74, zM75, zM76, zM77, zM78, zM79, zM80, zM81, zM82, zM83].all zchk = true := by decide +kernel
theorem zk7 : [zM84, zM85, zM86, zM87, zM88, zM89, zM90, zM91, zM92, zM93, zM94, zM95].all zchk = true := by decide +kernel
theorem zk8 : [zM96, zM97, zM98, zM99, zM100, zM101, zM102, zM103, zM104, zM105, zM106, zM107].all zchk = true := by decide +kernel
