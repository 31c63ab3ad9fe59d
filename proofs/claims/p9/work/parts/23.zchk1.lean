theorem zk3 : [zM36, zM37, zM38, zM39, zM40, zM41, zM42, zM43, zM44, zM45, zM46, zM47].all zchk = true := by decide +kernel
theorem zk4 : [zM48, zM49, zM50, zM51, zM52, zM53, zM54, zM55, zM56, zM57, zM58, zM59].all zchk = true := by decide +kernel
theorem zk5 : [zM60, zM61, zM62, zM63, zM64, zM65, zM66, zM67, zM68, zM69, zM70, zM71].all zchk = true := by decide +kernel
