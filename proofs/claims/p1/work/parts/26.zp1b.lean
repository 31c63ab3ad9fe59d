/-! The law's one call, by the call. -/
def zone (o : aR) : Bool := match o.2.1 with
  | .inl (some (.inl (.int x))) => decide (x = 1) && (decide (o.2.2.1 ≤ 600002) && decide (o.2.2.2.1 ≤ 7302232))
  | _ => false
def zok (N pc : Nat) : Bool := match arun zP (some N) zLaw (zex (some N)) 3000 zI5 pc zlC [] zhC with
  | some os => os.all zone
  | none => false
def zfrD : aE × aF := (zI5, 39, zlC, [.inr (1, 0, 0, 31)], zhC)
set_option maxRecDepth 100000 in
theorem zgoD : ago zP (some 5) zLaw (zex (some 5)) 11 zfrC = some zfrD := ago_lit (by decide +kernel)
def zpcs : List Nat := [132, 260, 316, 379, 435, 479, 546, 606, 662, 706, 717, 793, 861, 953, 1009, 1065, 1173, 1240, 1300, 1313, 1369]
set_option maxRecDepth 100000 in
theorem zfkD : (match afk zP (some 5) zLaw zfrD with
    | some frs => frs.all (fun q => decide (q.2.1 ∈ zpcs))
    | none => false) = true := by decide +kernel
set_option maxRecDepth 100000 in
theorem zokN0 : zok 0 23 = true := by decide +kernel
set_option maxRecDepth 100000 in
theorem zokN1 : zok 1 23 = true := by decide +kernel
set_option maxRecDepth 100000 in
theorem zokN2 : zok 2 23 = true := by decide +kernel
set_option maxRecDepth 100000 in
theorem zokN3 : zok 3 23 = true := by decide +kernel
set_option maxRecDepth 100000 in
theorem zokN4 : zok 4 23 = true := by decide +kernel
