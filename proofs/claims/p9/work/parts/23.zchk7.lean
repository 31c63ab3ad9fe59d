theorem zk21 : [zM252, zM253, zM254, zM255, zM256, zM257, zM258].all zchk = true := by decide +kernel
