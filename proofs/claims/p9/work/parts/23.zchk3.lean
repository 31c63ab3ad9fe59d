theorem zk9 : [zM108, zM109, zM110, zM111, zM112, zM113, zM114, zM115, zM116, zM117, zM118, zM119].all zchk = true := by decide +kernel
theorem zk10 : [zM120, zM121, zM122, zM123, zM124, zM125, zM126, zM127, zM128, zM129, zM130, zM131].all zchk = true := by decide +kernel
theorem zk11 : [zM132, zM133, zM134, zM135, zM136, zM137, zM138, zM139, zM140, zM141, zM142, zM143].all zchk = true := by decide +kernel
