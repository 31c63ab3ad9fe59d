theorem zk12 : [zM144, zM145, zM146, zM147, zM148, zM149, zM150, zM151, zM152, zM153, zM154, zM155].all zchk = true := by decide +kernel
theorem zk13 : [zM156, zM157, zM158, zM159, zM160, zM161, zM162, zM163, zM164, zM165, zM166, zM167].all zchk = true := by decide +kernel
theorem zk14 : [zM168, zM169, zM170, zM171, zM172, zM173, zM174, zM175, zM176, zM177, zM178, zM179].all zchk = true := by decide +kernel
