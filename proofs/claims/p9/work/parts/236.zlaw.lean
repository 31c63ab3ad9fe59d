theorem zl_all : ∀ pc, pc < 947 → zchk1 zM259 pc = true := fun pc hpc => by
  by_cases h0 : pc < 100
  · have h := (List.all_eq_true.mp zl0) (pc - 0) (List.mem_range.mpr (by omega))
    rwa [show 0 + (pc - 0) = pc by omega] at h
  by_cases h1 : pc < 200
  · have h := (List.all_eq_true.mp zl1) (pc - 100) (List.mem_range.mpr (by omega))
    rwa [show 100 + (pc - 100) = pc by omega] at h
  by_cases h2 : pc < 300
  · have h := (List.all_eq_true.mp zl2) (pc - 200) (List.mem_range.mpr (by omega))
    rwa [show 200 + (pc - 200) = pc by omega] at h
  by_cases h3 : pc < 400
  · have h := (List.all_eq_true.mp zl3) (pc - 300) (List.mem_range.mpr (by omega))
    rwa [show 300 + (pc - 300) = pc by omega] at h
  by_cases h4 : pc < 500
  · have h := (List.all_eq_true.mp zl4) (pc - 400) (List.mem_range.mpr (by omega))
    rwa [show 400 + (pc - 400) = pc by omega] at h
  by_cases h5 : pc < 600
  · have h := (List.all_eq_true.mp zl5) (pc - 500) (List.mem_range.mpr (by omega))
    rwa [show 500 + (pc - 500) = pc by omega] at h
  by_cases h6 : pc < 700
  · have h := (List.all_eq_true.mp zl6) (pc - 600) (List.mem_range.mpr (by omega))
    rwa [show 600 + (pc - 600) = pc by omega] at h
  by_cases h7 : pc < 800
  · have h := (List.all_eq_true.mp zl7) (pc - 700) (List.mem_range.mpr (by omega))
    rwa [show 700 + (pc - 700) = pc by omega] at h
  by_cases h8 : pc < 900
  · have h := (List.all_eq_true.mp zl8) (pc - 800) (List.mem_range.mpr (by omega))
    rwa [show 800 + (pc - 800) = pc by omega] at h
  by_cases h9 : pc < 1000
  · have h := (List.all_eq_true.mp zl9) (pc - 900) (List.mem_range.mpr (by omega))
    rwa [show 900 + (pc - 900) = pc by omega] at h
  omega
theorem zl_mok : xmok zcl zTT zM259 = true := by decide +kernel
theorem zl_len : (xcd zM259).length = 947 := by decide +kernel
theorem zk22 : [zM259].all zchk = true := by
  have h : zchk zM259 = true := by
    unfold zchk
    rw [zl_mok, Bool.true_and, zl_len]
    exact List.all_eq_true.mpr fun pc hpc => zl_all pc (List.mem_range.mp hpc)
  rw [List.all_cons, h]
  rfl
