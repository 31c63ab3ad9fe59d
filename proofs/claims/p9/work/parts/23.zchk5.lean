theorem zk15 : [zM180, zM181, zM182, zM183, zM184, zM185, zM186, zM187, zM188, zM189, zM190, zM191].all zchk = true := by decide +kernel
theorem zk16 : [zM192, zM193, zM194, zM195, zM196, zM197, zM198, zM199, zM200, zM201, zM202, zM203].all zchk = true := by decide +kernel
theorem zk17 : [zM204, zM205, zM206, zM207, zM208, zM209, zM210, zM211, zM212, zM213, zM214, zM215].all zchk = true := by decide +kernel
