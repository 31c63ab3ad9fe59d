theorem zk18 : [zM216, zM217, zM218, zM219, zM220, zM221, zM222, zM223, zM224, zM225, zM226, zM227].all zchk = true := by decide +kernel
theorem zk19 : [zM228, zM229, zM230, zM231, zM232, zM233, zM234, zM235, zM236, zM237, zM238, zM239].all zchk = true := by decide +kernel
theorem zk20 : [zM240, zM241, zM242, zM243, zM244, zM245, zM246, zM247, zM248, zM249, zM250, zM251].all zchk = true := by decide +kernel
