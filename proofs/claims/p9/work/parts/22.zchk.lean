def zchk (M : xM) : Bool := xmok zcl zTT M && (List.range (xcd M).length).all fun pc => match (xcd M)[pc]? with
  | some (some xi) => decide (decode (xbc M) pc = .ok (xi.1, xi.2.1)) && xok zcl zTT zBs (xnm M).cls (decide (xkd M = 2 ∨ xkd M = 3)) xi && xokc zG zE zTT zprog M pc xi
  | _ => true
