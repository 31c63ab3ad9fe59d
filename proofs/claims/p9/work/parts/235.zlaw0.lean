def zchk1 (M : xM) (pc : Nat) : Bool := match (xcd M)[pc]? with
  | some (some xi) => decide (decode (xbc M) pc = .ok (xi.1, xi.2.1)) && xok zcl zTT zBs (xnm M).cls (decide (xkd M = 2 ∨ xkd M = 3)) xi && xokc zG zE zTT zprog M pc xi
  | _ => true
theorem zl0 : ((List.range 100).all fun i => zchk1 zM259 (0 + i)) = true := by decide +kernel
theorem zl1 : ((List.range 100).all fun i => zchk1 zM259 (100 + i)) = true := by decide +kernel
theorem zl2 : ((List.range 100).all fun i => zchk1 zM259 (200 + i)) = true := by decide +kernel
theorem zl3 : ((List.range 100).all fun i => zchk1 zM259 (300 + i)) = true := by decide +kernel
theorem zl4 : ((List.range 100).all fun i => zchk1 zM259 (400 + i)) = true := by decide +kernel
