/-! Runs over values of which not all is known: a value is known, or is one of the unknowns, or some int within bounds, or some long. A run forks where it must. -/
abbrev aV : Type := Value ⊕ (Nat × Nat × Int × Int)
/-- bounds of the unknowns -/
abbrev aE : Type := List (Int × Int)
abbrev aL : Type := List (Nat × aV)
/-- an array (type, length, default, what lies elsewhere), an object, or something of which nothing is said -/
abbrev aC : Type := (FieldType × Nat × aV × List (Nat × aV)) ⊕ Option (Nat × List aV)
abbrev aS : Type := Nat × Nat × List (List aC)
abbrev aO : Type := Option aV ⊕ Nat
abbrev aF : Type := Nat × aL × List aV × aS
def aTop : aV := .inr (1, 0, -2147483648, 2147483647)
def aTopL : aV := .inr (2, 0, 0, 0)
def aInt (a : aV) : Bool := match a with
  | .inl (.int _) => true
  | .inl _ => false
  | .inr (0, _) => true
  | .inr (1, _) => true
  | .inr (_ + 2, _) => false
def aLong (a : aV) : Bool := match a with
  | .inl (.long _) => true
  | .inl _ => false
  | .inr (0, _) => false
  | .inr (1, _) => false
  | .inr (_ + 2, _) => true
def acat (a : aV) : Nat := match a with
  | .inl v => v.category
  | .inr (0, _) => 1
  | .inr (1, _) => 1
  | .inr (_ + 2, _) => 2
def aG (ρ : Nat → Int32) (a : aV) (v : Value) : Prop := match a with
  | .inl w => v = w
  | .inr (0, k, _) => v = .int (ρ k)
  | .inr (1, _, lo, hi) => ∃ x : Int32, v = .int x ∧ lo ≤ x.toInt ∧ x.toInt ≤ hi
  | .inr (_ + 2, _) => ∃ x : Int64, v = .long x
def aGs (ρ : Nat → Int32) : List aV → List Value → Prop
  | [], [] => True
  | a :: as, v :: vs => aG ρ a v ∧ aGs ρ as vs
  | [], _ :: _ => False
  | _ :: _, [] => False
def aGl (ρ : Nat → Int32) : aL → xL → Prop
  | [], [] => True
  | p :: l, q :: l' => p.1 = q.1 ∧ aG ρ p.2 q.2 ∧ aGl ρ l l'
  | [], _ :: _ => False
  | _ :: _, [] => False
def aGe (ρ : Nat → Int32) (E : aE) : Prop := ∀ (k : Nat) (p : Int × Int), E[k]? = some p → p.1 ≤ (ρ k).toInt ∧ (ρ k).toInt ≤ p.2
def aLk (d : aV) : List (Nat × aV) → Nat → aV
  | [], _ => d
  | q :: r, j => if q.1 = j then q.2 else aLk d r j
def aGc (ρ : Nat → Int32) (a : aC) (c : xC) : Prop := match a with
  | .inr none => True
  | .inr (some (ci, as)) => ∃ vs, c = .inr (some (ci, vs)) ∧ aGs ρ as vs
  | .inl (.int, n, d, us) => ∃ f : Nat → Int32, c = .inl (.int, n, .inl f) ∧ ∀ j, True → aG ρ (aLk d us j) (.int (f j))
  | .inl (.boolean, n, d, us) => ∃ f : Nat → Int32, c = .inl (.boolean, n, .inl f) ∧ ∀ j, True → aG ρ (aLk d us j) (.int (f j))
  | .inl (.long, n, d, us) => ∃ f : Nat → Int64, c = .inl (.long, n, .inr (.inl f)) ∧ ∀ j, True → aG ρ (aLk d us j) (.long (f j))
  | .inl (.object C, n, d, us) => ∃ f : Nat → Option Nat, c = .inl (.object C, n, .inr (.inr (.inr (.inr f)))) ∧ ∀ j, True → aG ρ (aLk d us j) (va_rf (f j))
  | .inl _ => False
def aget (h : List (List aC)) (k : Nat) : Option aC := (h.getD (k / 48) [])[k % 48]?
def aset (h : List (List aC)) (k : Nat) (c : aC) : List (List aC) := h.set (k / 48) ((h.getD (k / 48) []).set (k % 48) c)
def aGS (ρ : Nat → Int32) (A : aS) (S : xS) : Prop := A.1 = S.1 ∧ A.2.1 = S.2.1 ∧ ∀ (k : Nat) (ca : aC), aget A.2.2 k = some ca → ∃ c, xget S.2.2 k = some c ∧ aGc ρ ca c
def anew (A : aS) (c : aC) (w : Nat) : Option aS := match aget A.2.2 A.1 with
  | some _ => some (A.1 + 1, A.2.1 + w, aset A.2.2 A.1 c)
  | none => none
def aput (A : aS) (k : Nat) (c : aC) : aS := (A.1, A.2.1, aset A.2.2 k c)
def aat (A : aS) (k : Nat) : Option aC := if k < A.1 then aget A.2.2 k else none
/-- an unknown whose bounds meet is known -/
def anrm (E : aE) (a : aV) : aV := match a with
  | .inr (0, k, q) => (match E[k]? with
    | some p => if p.1 = p.2 then .inl (.int (Int32.ofInt p.1)) else .inr (0, k, q)
    | none => .inr (0, k, q))
  | b => b
def afind : aL → Nat → Option aV
  | [], _ => none
  | q :: l, i => if q.1 = i then some q.2 else afind l i
def asto1 (l : aL) (i : Nat) (a : aV) : aL := (i, a) :: l.filter (fun q => !(q.1 == i) && !(q.1 + 1 == i && acat q.2 == 2))
def asto2 (l : aL) (i : Nat) (a : aV) : aL := (i, a) :: l.filter (fun q => !(q.1 == i) && (!(q.1 == i + 1) && !(q.1 + 1 == i && acat q.2 == 2)))
def aldI (E : aE) (l : aL) (i : Nat) : Option aV := match afind l i with
  | some a => if aInt a then some (anrm E a) else none
  | none => none
def aldL (l : aL) (i : Nat) : Option aV := match afind l i with
  | some a => if aLong a then some a else none
  | none => none
def aldA (l : aL) (i : Nat) : Option aV := match afind l i with
  | some (.inl (.ref x)) => some (.inl (.ref x))
  | some (.inl .null) => some (.inl .null)
  | some (.inl (.retAddr x)) => some (.inl (.retAddr x))
  | _ => none
def astI (l : aL) (nL i : Nat) (st : List aV) : Option (aL × List aV) := match st with
  | a :: r => if aInt a && decide (i < nL) then some (asto1 l i a, r) else none
  | [] => none
def astL (l : aL) (nL i : Nat) (st : List aV) : Option (aL × List aV) := match st with
  | a :: r => if aLong a && decide (i + 1 < nL) then some (asto2 l i a, r) else none
  | [] => none
def astA (l : aL) (nL i : Nat) (st : List aV) : Option (aL × List aV) := match st with
  | .inl (.ref x) :: r => if i < nL then some (asto1 l i (.inl (.ref x)), r) else none
  | .inl .null :: r => if i < nL then some (asto1 l i (.inl .null), r) else none
  | _ => none
def aii (st : List aV) (f : Int32 → Int32 → Option Int32) (g : aV → aV → Option aV) : Option (List aV) := match st with
  | .inl (.int y) :: .inl (.int x) :: r => (f x y).map fun z => .inl (.int z) :: r
  | b :: a :: r => if aInt a && aInt b then (g a b).map fun z => z :: r else none
  | _ => none
def gTop (_ _ : aV) : Option aV := some aTop
def gAdd (a b : aV) : Option aV := match a, b with
  | .inl (.int x), b => if x = 0 then some b else some aTop
  | a, .inl (.int y) => if y = 0 then some a else some aTop
  | _, _ => some aTop
def gAnd (a b : aV) : Option aV := match a, b with
  | .inl (.int x), _ => if 0 ≤ x then some (.inr (1, 0, 0, x.toInt)) else some aTop
  | _, .inl (.int y) => if 0 ≤ y then some (.inr (1, 0, 0, y.toInt)) else some aTop
  | _, _ => some aTop
def gDiv (_ b : aV) : Option aV := match b with
  | .inl (.int y) => if y = 0 then none else some aTop
  | _ => none
def all2 (st : List aV) (f : Int64 → Int64 → Value) (t : aV) : Option (List aV) := match st with
  | .inl (.long y) :: .inl (.long x) :: r => some (.inl (f x y) :: r)
  | b :: a :: r => if aLong a && aLong b then some (t :: r) else none
  | _ => none
def ali (st : List aV) (f : Int64 → Int32 → Value) (t : aV) : Option (List aV) := match st with
  | .inl (.int y) :: .inl (.long x) :: r => some (.inl (f x y) :: r)
  | b :: a :: r => if aLong a && aInt b then some (t :: r) else none
  | _ => none
def ai1 (st : List aV) (f : Int32 → Value) (t : aV) : Option (List aV) := match st with
  | .inl (.int x) :: r => some (.inl (f x) :: r)
  | a :: r => if aInt a then some (t :: r) else none
  | _ => none
def al1 (st : List aV) (f : Int64 → Value) (t : aV) : Option (List aV) := match st with
  | .inl (.long x) :: r => some (.inl (f x) :: r)
  | a :: r => if aLong a then some (t :: r) else none
  | _ => none
/-- an unknown beside a number: below it, it, above it -/
def aspl (E : aE) (k : Nat) (p : Int × Int) (y : Int) : List (aE × Int) :=
  (if p.1 < y then [(E.set k (p.1, min p.2 (y - 1)), -1)] else []) ++ ((if p.1 ≤ y ∧ y ≤ p.2 then [(E.set k (y, y), 0)] else []) ++ (if y < p.2 then [(E.set k (max p.1 (y + 1), p.2), 1)] else []))
def acs (c : ClassFile.Cond) (s : Int) : Bool := match c with
  | .eq => decide (s = 0)
  | .ne => !decide (s = 0)
  | .lt => decide (s < 0)
  | .ge => decide (0 ≤ s)
  | .gt => decide (0 < s)
  | .le => decide (s ≤ 0)
def acmp (E : aE) (c : ClassFile.Cond) (a b : aV) : Option (List (aE × Bool)) := match a, b with
  | .inl (.int x), .inl (.int y) => some [(E, xcmp c x y)]
  | .inr (0, k, _), .inl (.int y) => (match E[k]? with
    | some p => some ((aspl E k p y.toInt).map fun q => (q.1, acs c q.2))
    | none => none)
  | .inl (.int x), .inr (0, k, _) => (match E[k]? with
    | some p => some ((aspl E k p x.toInt).map fun q => (q.1, acs c (-q.2)))
    | none => none)
  | a, b => if aInt a && aInt b then some [(E, true), (E, false)] else none
def aif (E : aE) (c : ClassFile.Cond) (pc : Nat) (off : Int) (a b : aV) (L : aL) (r : List aV) (S : aS) : Option (List (aE × aF)) := match xtg pc off, acmp E c a b with
  | some t, some qs => some (qs.map fun q => (q.1, (bif q.2 then t else pc + 3), L, r, S))
  | _, _ => none
/-- pieces of an interval at some keys -/
def agap : List Int → Int → Int → List (Int × Int)
  | [], lo, hi => [(lo, hi)]
  | k :: ks, lo, hi => if hi < k then [(lo, hi)] else if k < lo then agap ks lo hi else (lo, k - 1) :: (k, k) :: agap ks (k + 1) hi
/-- where a switch goes for all of a piece; none: not known -/
def atab (d lo hi : Int) (offs : Array Int) (pc : Nat) (p : Int × Int) : Option Nat :=
  if p.2 < lo ∨ hi < p.1 then xtg pc d else
  if p.1 = p.2 then (match offs[(p.1 - lo).toNat]? with
    | some off => xtg pc off
    | none => none) else none
def alook (d : Int) (ps : Array (Int × Int)) (pc : Nat) (p : Int × Int) : Option Nat :=
  if (ps.toList.zip (ps.toList.drop 1)).all (fun (a, next) => a.1 < next.1) = true then
    (if ps.toList.all (fun q => decide (q.1 < p.1) || decide (p.2 < q.1)) = true then xtg pc d else if p.1 = p.2 then xtg pc (Op.lookupswitch.offset ps.toList d p.1) else none)
  else none
def aall {α β : Type} (f : α → Option (List β)) : List α → Option (List β)
  | [] => some []
  | a :: l => match f a with
    | some bs => (match aall f l with
      | some cs => some (bs ++ cs)
      | none => none)
    | none => none
/-- a switch: the forks -/
def asw (E : aE) (ks : List Int) (g : Int × Int → Option Nat) (L : aL) (st : List aV) (S : aS) : Option (List (aE × aF)) := match st with
  | .inl (.int x) :: r => (g (x.toInt, x.toInt)).map fun t => [(E, t, L, r, S)]
  | .inr (0, k, _) :: r => (match E[k]? with
    | some p => aall (fun q : Int × Int => if q.2 < q.1 then some [] else (g q).map fun t => [(E.set k q, t, L, r, S)]) (agap ks p.1 p.2)
    | none => none)
  | .inr (1, _, lo, hi) :: r => aall (fun q : Int × Int => if q.2 < q.1 then some [] else (g q).map fun t => [(E, t, L, r, S)]) (agap ks lo hi)
  | _ => none
/-- what an index may be: exactly known, an unknown's values one by one, or within the bounds -/
def aidx (E : aE) (a : aV) (n : Nat) : Bool := match a with
  | .inr (0, k, _) => (match E[k]? with
    | some p => decide (0 ≤ p.1) && decide (p.2 < n)
    | none => false)
  | .inr (1, _, lo, hi) => decide (0 ≤ lo) && decide (hi < n)
  | _ => false
/-- a read: over each value that an unknown index may have -/
def ard (E : aE) (i : aV) (n : Nat) (g : Nat → Option aV) (pc : Nat) (L : aL) (r : List aV) (S : aS) : Option (List (aE × aF)) := match i with
  | .inl (.int x) => if xin x n then (g x.toNatClampNeg).map fun a => [(E, pc + 1, L, anrm E a :: r, S)] else none
  | .inr (0, k, _) => (match E[k]? with
    | some p => if 0 ≤ p.1 ∧ p.2 < n ∧ p.2 < 64 then aall (fun j : Nat => if (j : Int) < p.1 then some [] else (g j).map fun a => [(E.set k ((j : Int), (j : Int)), pc + 1, L, a :: r, S)]) (List.range (p.2 + 1).toNat) else none
    | none => none)
  | _ => none
def aiald (E : aE) (N : Option Nat) (pc : Nat) (L : aL) (st : List aV) (S : aS) : Option (List (aE × aF)) := match st with
  | .inl (.int i) :: .inl (.retAddr _) :: r => (match N with
    | some n => if xin i n then some [(E, pc + 1, L, anrm E (.inr (0, i.toNatClampNeg, 0, 0)) :: r, S)] else none
    | none => none)
  | i :: .inl (.ref a) :: r => (match aat S a with
    | some (.inl (.int, n, d, us)) => ard E i n (fun j => some (aLk d us j)) pc L r S
    | _ => none)
  | _ => none
def azald (E : aE) (pc : Nat) (L : aL) (st : List aV) (S : aS) : Option (List (aE × aF)) := match st with
  | i :: .inl (.ref a) :: r => (match aat S a with
    | some (.inl (.boolean, n, d, us)) => ard E i n (fun j => some (aLk d us j)) pc L r S
    | _ => none)
  | _ => none
def alald (E : aE) (pc : Nat) (L : aL) (st : List aV) (S : aS) : Option (List (aE × aF)) := match st with
  | i :: .inl (.ref a) :: r => (match aat S a with
    | some (.inl (.long, n, d, us)) => ard E i n (fun j => some (aLk d us j)) pc L r S
    | _ => none)
  | _ => none
def aaald (E : aE) (pc : Nat) (L : aL) (st : List aV) (S : aS) : Option (List (aE × aF)) := match st with
  | i :: .inl (.ref a) :: r => (match aat S a with
    | some (.inl (.object _, n, d, us)) => ard E i n (fun j => some (aLk d us j)) pc L r S
    | _ => none)
  | _ => none
def alen (N : Option Nat) (S : aS) (st : List aV) : Option (List aV) := match st with
  | .inl (.retAddr _) :: r => N.map fun n => .inl (.int (Int32.ofNat n)) :: r
  | .inl (.ref a) :: r => (match aat S a with
    | some (.inl (_, n, _)) => some (.inl (.int (Int32.ofNat n)) :: r)
    | _ => none)
  | _ => none
/-- a write -/
def awr (E : aE) (i : aV) (n : Nat) (v t : aV) (d : aV) (us : List (Nat × aV)) : Option (aV × List (Nat × aV)) := match i with
  | .inl (.int x) => if xin x n then some (d, (x.toNatClampNeg, v) :: us) else none
  | i => if aidx E i n then some (t, []) else none
def aiast (E : aE) (S : aS) (st : List aV) : Option (List aV × aS) := match st with
  | v :: i :: .inl (.ref a) :: r => (match aat S a with
    | some (.inl (.int, n, d, us)) => if aInt v then (awr E i n v aTop d us).map fun q => (r, aput S a (.inl (.int, n, q))) else none
    | _ => none)
  | _ => none
def azast (E : aE) (S : aS) (st : List aV) : Option (List aV × aS) := match st with
  | .inl (.int x) :: i :: .inl (.ref a) :: r => (match aat S a with
    | some (.inl (.boolean, n, d, us)) => (awr E i n (.inl (.int (vp_nar .boolean x))) aTop d us).map fun q => (r, aput S a (.inl (.boolean, n, q)))
    | _ => none)
  | _ => none
def alast (E : aE) (S : aS) (st : List aV) : Option (List aV × aS) := match st with
  | v :: i :: .inl (.ref a) :: r => (match aat S a with
    | some (.inl (.long, n, d, us)) => if aLong v then (awr E i n v aTopL d us).map fun q => (r, aput S a (.inl (.long, n, q))) else none
    | _ => none)
  | _ => none
def aaast (cl : List vw_C) (S : aS) (st : List aV) : Option (List aV × aS) := match st with
  | .inl (.ref v) :: .inl (.int i) :: .inl (.ref a) :: r => (match aat S a, aat S v with
    | some (.inl (.object C, n, d, us)), some (.inr (some (ci, _))) =>
      if xin i n && decide ((cl[ci]?).map (fun q => q.1) = some C) then some (r, aput S a (.inl (.object C, n, d, (i.toNatClampNeg, .inl (.ref v)) :: us))) else none
    | _, _ => none)
  | _ => none
def afit (ty : FieldType) (a : aV) : Bool := match a with
  | .inl v => xfit ty v
  | .inr (0, _) => decide (ty = .int)
  | .inr (1, _) => decide (ty = .int)
  | .inr (_ + 2, _) => decide (ty = .long)
def agetf (E : aE) (S : aS) (ci k : Nat) (st : List aV) : Option (List aV) := match st with
  | .inl (.ref a) :: r => (match aat S a with
    | some (.inr (some (cj, fs))) => if cj = ci then (fs[k]?).map fun v => anrm E v :: r else none
    | _ => none)
  | _ => none
def aputf (S : aS) (ci k : Nat) (ty : FieldType) (st : List aV) : Option (List aV × aS) := match st with
  | v :: .inl (.ref a) :: r => (match aat S a with
    | some (.inr (some (cj, fs))) => if cj = ci ∧ k < fs.length ∧ afit ty v = true then some (r, aput S a (.inr (some (ci, fs.set k v)))) else none
    | _ => none)
  | _ => none
def anewa (S : aS) (at0 : ArrayType) (st : List aV) : Option (List aV × aS) := match st with
  | .inl (.int n) :: r => if n < 0 ∨ 65536 < n.toNatClampNeg then none else
    (match at0 with
    | .int => (anew S (.inl (.int, n.toNatClampNeg, .inl (.int 0), [])) n.toNatClampNeg).map fun S' => (.inl (.ref S.1) :: r, S')
    | .boolean => (anew S (.inl (.boolean, n.toNatClampNeg, .inl (.int 0), [])) n.toNatClampNeg).map fun S' => (.inl (.ref S.1) :: r, S')
    | .long => (anew S (.inl (.long, n.toNatClampNeg, .inl (.long 0), [])) n.toNatClampNeg).map fun S' => (.inl (.ref S.1) :: r, S')
    | _ => none)
  | _ => none
def anewq (S : aS) (C : String) (st : List aV) : Option (List aV × aS) := match st with
  | .inl (.int n) :: r => if n < 0 ∨ 65536 < n.toNatClampNeg then none else (anew S (.inl (.object C, n.toNatClampNeg, .inl .null, [])) n.toNatClampNeg).map fun S' => (.inl (.ref S.1) :: r, S')
  | _ => none
def acpy (S : aS) (st : List aV) : Option (List aV × aS) := match st with
  | .inl (.int n) :: .inl (.int dp) :: .inl (.ref a) :: .inl (.int sp) :: .inl (.ref a0) :: r => (match aat S a0, aat S a with
    | some (.inl (.int, n0, d0, u0)), some (.inl (.int, n1, d1, u1)) =>
      if sp < 0 ∨ dp < 0 ∨ n < 0 then none else
      if sp.toNatClampNeg + n.toNatClampNeg ≤ n0 ∧ dp.toNatClampNeg + n.toNatClampNeg ≤ n1 then some (r, aput S a (.inl (.int, n1, d1, (List.range n.toNatClampNeg).map (fun j => (dp.toNatClampNeg + j, aLk d0 u0 (sp.toNatClampNeg + j))) ++ u1))) else none
    | _, _ => none)
  | _ => none
def aw (st : List aV) : Nat := (st.map fun v => acat v).sum
def asp (k : Nat) (st : List aV) (S : aS) : Option (List aV × aS) :=
  if 16 < aw st then none
  else if k = xObj then (match st with
    | .inl (.ref _) :: r => some (r, S)
    | _ => none)
  else if k = xMax then (aii st (fun x y => some (if x < y then y else x)) gTop).map fun t => (t, S)
  else if k = xMin then (aii st (fun x y => some (if y < x then y else x)) gTop).map fun t => (t, S)
  else if k = xCopy then acpy S st
  else none
def a1 (E : aE) (o : Option aF) : Option (List (aE × aF)) := o.map fun q => [(E, q)]
def ast (N : Option Nat) (cl : List vw_C) (fty : Nat → Nat → FieldType) (fdef : Nat → List Value) (nL : Nat) (xi : xI) (E : aE) (pc : Nat) (ls : aL) (st : List aV) (S : aS) : Option (List (aE × aF)) := match xi.1 with
  | .aconst_null => a1 E (some (pc + 1, ls, .inl .null :: st, S))
  | .aload i => a1 E ((aldA ls i).map fun v => (pc + 2, ls, v :: st, S))
  | .aload_n i => a1 E ((aldA ls i.val).map fun v => (pc + 1, ls, v :: st, S))
  | .iload i => a1 E ((aldI E ls i).map fun v => (pc + 2, ls, v :: st, S))
  | .iload_n i => a1 E ((aldI E ls i.val).map fun v => (pc + 1, ls, v :: st, S))
  | .lload i => a1 E ((aldL ls i).map fun v => (pc + 2, ls, v :: st, S))
  | .lload_n i => a1 E ((aldL ls i.val).map fun v => (pc + 1, ls, v :: st, S))
  | .astore i => a1 E ((astA ls nL i st).map fun q => (pc + 2, q.1, q.2, S))
  | .astore_n i => a1 E ((astA ls nL i.val st).map fun q => (pc + 1, q.1, q.2, S))
  | .istore i => a1 E ((astI ls nL i st).map fun q => (pc + 2, q.1, q.2, S))
  | .istore_n i => a1 E ((astI ls nL i.val st).map fun q => (pc + 1, q.1, q.2, S))
  | .lstore i => a1 E ((astL ls nL i st).map fun q => (pc + 2, q.1, q.2, S))
  | .lstore_n i => a1 E ((astL ls nL i.val st).map fun q => (pc + 1, q.1, q.2, S))
  | .iinc i n => (match afind ls i with
    | some (.inl (.int x)) => if i < nL then a1 E (some (pc + 3, asto1 ls i (.inl (.int (x + Int32.ofInt n))), st, S)) else none
    | _ => none)
  | .iconst n => a1 E (some (pc + 1, ls, .inl (.int (Int32.ofInt n)) :: st, S))
  | .bipush n => a1 E (some (pc + 2, ls, .inl (.int (Int8.ofInt n).toInt32) :: st, S))
  | .sipush n => a1 E (some (pc + 3, ls, .inl (.int (Int16.ofInt n).toInt32) :: st, S))
  | .lconst n => a1 E (some (pc + 1, ls, .inl (.long (Int64.ofNat n.val)) :: st, S))
  | .ldc _ => a1 E (some (pc + 2, ls, .inl (.int (Int32.ofInt xi.2.2.2.2.1)) :: st, S))
  | .ldc_w _ => a1 E (some (pc + 3, ls, .inl (.int (Int32.ofInt xi.2.2.2.2.1)) :: st, S))
  | .ldc2_w _ => a1 E (some (pc + 3, ls, .inl (.long (Int64.ofInt xi.2.2.2.2.1)) :: st, S))
  | .iadd => a1 E ((aii st (fun x y => some (x + y)) gAdd).map fun t => (pc + 1, ls, t, S))
  | .isub => a1 E ((aii st (fun x y => some (x - y)) gTop).map fun t => (pc + 1, ls, t, S))
  | .imul => a1 E ((aii st (fun x y => some (x * y)) gTop).map fun t => (pc + 1, ls, t, S))
  | .iand => a1 E ((aii st (fun x y => some (x &&& y)) gAnd).map fun t => (pc + 1, ls, t, S))
  | .ior => a1 E ((aii st (fun x y => some (x ||| y)) gTop).map fun t => (pc + 1, ls, t, S))
  | .ixor => a1 E ((aii st (fun x y => some (x ^^^ y)) gTop).map fun t => (pc + 1, ls, t, S))
  | .ishl => a1 E ((aii st (fun x y => some (x <<< (y &&& 31))) gTop).map fun t => (pc + 1, ls, t, S))
  | .ishr => a1 E ((aii st (fun x y => some (x >>> (y &&& 31))) gTop).map fun t => (pc + 1, ls, t, S))
  | .iushr => a1 E ((aii st (fun x y => some (x.toUInt32 >>> (y.toUInt32 &&& Int32.toUInt32 31)).toInt32) gTop).map fun t => (pc + 1, ls, t, S))
  | .idiv => a1 E ((aii st (fun x y => if y = 0 then none else some (x / y)) gDiv).map fun t => (pc + 1, ls, t, S))
  | .irem => a1 E ((aii st (fun x y => if y = 0 then none else some (x - x / y * y)) gDiv).map fun t => (pc + 1, ls, t, S))
  | .ineg => a1 E ((ai1 st (fun x => .int (-x)) aTop).map fun t => (pc + 1, ls, t, S))
  | .i2l => a1 E ((ai1 st (fun x => .long x.toInt64) aTopL).map fun t => (pc + 1, ls, t, S))
  | .l2i => a1 E ((al1 st (fun x => .int x.toInt32) aTop).map fun t => (pc + 1, ls, t, S))
  | .land => a1 E ((all2 st (fun x y => .long (x &&& y)) aTopL).map fun t => (pc + 1, ls, t, S))
  | .lor => a1 E ((all2 st (fun x y => .long (x ||| y)) aTopL).map fun t => (pc + 1, ls, t, S))
  | .lxor => a1 E ((all2 st (fun x y => .long (x ^^^ y)) aTopL).map fun t => (pc + 1, ls, t, S))
  | .lmul => a1 E ((all2 st (fun x y => .long (x * y)) aTopL).map fun t => (pc + 1, ls, t, S))
  | .lcmp => a1 E ((all2 st (fun x y => .int (lg_cmp x y)) aTop).map fun t => (pc + 1, ls, t, S))
  | .lshl => a1 E ((ali st (fun x y => .long (x <<< (y.toInt64 &&& 63))) aTopL).map fun t => (pc + 1, ls, t, S))
  | .lshr => a1 E ((ali st (fun x y => .long (x >>> (y.toInt64 &&& 63))) aTopL).map fun t => (pc + 1, ls, t, S))
  | .lushr => a1 E ((ali st (fun x y => .long (x.toUInt64 >>> (y.toInt64.toUInt64 &&& Int64.toUInt64 63)).toInt64) aTopL).map fun t => (pc + 1, ls, t, S))
  | .dup => (match st with
    | v :: r => if acat v = 1 then a1 E (some (pc + 1, ls, v :: v :: r, S)) else none
    | _ => none)
  | .dup2 => (match st with
    | v :: w :: r => if acat v = 1 ∧ acat w = 1 then a1 E (some (pc + 1, ls, v :: w :: v :: w :: r, S)) else none
    | _ => none)
  | .goto off => a1 E ((xtg pc off).map fun t => (t, ls, st, S))
  | .ifCond c off => (match st with
    | a :: r => aif E c pc off a (.inl (.int 0)) ls r S
    | _ => none)
  | .if_icmp c off => (match st with
    | b :: a :: r => aif E c pc off a b ls r S
    | _ => none)
  | .ifnull off => (match st with
    | .inl v :: r => a1 E ((xnul true pc off [v]).map fun q => (q.1, ls, r, S))
    | _ => none)
  | .ifnonnull off => (match st with
    | .inl v :: r => a1 E ((xnul false pc off [v]).map fun q => (q.1, ls, r, S))
    | _ => none)
  | .tableswitch d lo hi offs => asw E ((List.range offs.size).map fun i : Nat => lo + (i : Int)) (atab d lo hi offs pc) ls st S
  | .lookupswitch d ps => asw E (ps.toList.map fun q => q.1) (alook d ps pc) ls st S
  | .iaload => aiald E N pc ls st S
  | .baload => azald E pc ls st S
  | .laload => alald E pc ls st S
  | .aaload => aaald E pc ls st S
  | .arraylength => a1 E ((alen N S st).map fun t => (pc + 1, ls, t, S))
  | .iastore => a1 E ((aiast E S st).map fun q => (pc + 1, ls, q.1, q.2))
  | .bastore => a1 E ((azast E S st).map fun q => (pc + 1, ls, q.1, q.2))
  | .lastore => a1 E ((alast E S st).map fun q => (pc + 1, ls, q.1, q.2))
  | .aastore => a1 E ((aaast cl S st).map fun q => (pc + 1, ls, q.1, q.2))
  | .getfield _ => a1 E ((agetf E S xi.2.2.1 xi.2.2.2.1 st).map fun t => (pc + 3, ls, t, S))
  | .putfield _ => a1 E ((aputf S xi.2.2.1 xi.2.2.2.1 (fty xi.2.2.1 xi.2.2.2.1) st).map fun q => (pc + 3, ls, q.1, q.2))
  | .newarray a => a1 E ((anewa S a st).map fun q => (pc + 2, ls, q.1, q.2))
  | .anewarray _ => (match cl[xi.2.2.1]? with
    | some q => a1 E ((anewq S q.1 st).map fun q => (pc + 3, ls, q.1, q.2))
    | none => none)
  | .new _ => (match cl[xi.2.2.1]? with
    | some q => if 1000 ≤ xi.2.2.1 then none else a1 E ((anew S (.inr (some (xi.2.2.1, (fdef xi.2.2.1).map .inl))) q.2.2).map fun S' => (pc + 3, ls, .inl (.ref S.1) :: st, S'))
    | none => none)
  | .invokestatic _ => if xi.2.2.1 = xObj then none else a1 E ((asp xi.2.2.1 st S).map fun q => (pc + 3, ls, q.1, q.2))
  | .invokespecial _ => if xi.2.2.1 = xObj then a1 E ((asp xObj st S).map fun q => (pc + 3, ls, q.1, q.2)) else none
  | _ => none
def aend (M : xM) (i : Instr) (st : List aV) : Option (Option aV) := match i with
  | .ireturn => (match st, xrt M with
    | [a], some ty => if aInt a && afit ty a then some (some a) else none
    | _, _ => none)
  | .lreturn => (match st, xrt M with
    | [a], some .long => if aLong a then some (some a) else none
    | _, _ => none)
  | .areturn => (match st, xrt M with
    | [.inl (.ref a)], some (.object _) => some (some (.inl (.ref a)))
    | [.inl .null], some (.object _) => some (some (.inl .null))
    | _, _ => none)
  | .return_ => (match st, xrt M with
    | [], none => some none
    | _, _ => none)
  | _ => none
def arcv (S : aS) (ci : Nat) (vs : List aV) : Bool := match vs with
  | .inl (.ref b) :: _ => (match aat S b with
    | some (.inr (some (cj, _))) => decide (cj = ci)
    | _ => false)
  | _ => false
def arf1 (vs : List aV) : Bool := match vs with
  | .inl (.ref _) :: _ => true
  | _ => false
def aargs (N : xM) (i : Instr) (st : List aV) (S : aS) : Option (List aV × List aV) :=
  if xna N ≤ st.length ∧ aw (st.drop (xna N)) ≤ 8 ∧ xkd N ≤ 3 then
    (match i with
    | .invokestatic _ => if xkd N = 0 then some ((st.take (xna N)).reverse, st.drop (xna N)) else none
    | .invokevirtual _ => if xkd N = 1 ∧ arcv S (xcn N) (st.take (xna N)).reverse = true then some ((st.take (xna N)).reverse, st.drop (xna N)) else none
    | .invokespecial _ => if (xkd N = 2 ∨ xkd N = 3) ∧ arf1 (st.take (xna N)).reverse = true then some ((st.take (xna N)).reverse, st.drop (xna N)) else none
    | _ => none)
  else none
def acal (prog : List xM) (xi : xI) (st : List aV) (S : aS) : Option (List aV × List aV) := match prog[xi.2.2.1]? with
  | some N => aargs N xi.1 st S
  | none => none
def athr (M : xM) (xi : xI) (st : List aV) (S : aS) : Option (Nat × aS) := match xi.1 with
  | .new _ => if 1000 ≤ xi.2.2.1 ∧ aw st ≤ 8 ∧ xhs M = [] then (anew S (.inr none) 6).map fun S' => (xi.2.2.1 - 1000, S') else none
  | _ => none
def afil (L : aL) (i : Nat) : aL := L.filter (fun q => !(q.1 == i) && !(q.1 + 1 == i && acat q.2 == 2))
def ahp (M : xM) (hp : Nat) (L : aL) : Option (Nat × aL) := match (xcd M)[hp]? with
  | some (some xi) => if xi.2.1 = xlenOf xi.1 xi.2.1 then (match xi.1 with
    | .astore i => if i < xmx M then some (hp + 2, afil L i) else none
    | .astore_n i => if i.val < xmx M then some (hp + 1, afil L i.val) else none
    | _ => none) else none
  | _ => none
abbrev aR : Type := aE × aO × aS
def arun (P : xPk) (N : Option Nat) (M : xM) (ex : aE → Nat → List aV → aS → Option (List aR)) : Nat → aE → Nat → aL → List aV → aS → Option (List aR)
  | 0, _, _, _, _, _ => none
  | f + 1, E, pc, L, st, S => match (xcd M)[pc]? with
    | some (some xi) =>
      if xi.2.1 = xlenOf xi.1 xi.2.1 then
        match aend M xi.1 st with
        | some v => some [(E, .inl v, S)]
        | none => match acal P.2.2.2.2 xi st S with
          | some (vs, r) => (match ex E xi.2.2.1 vs S with
            | some os => aall (fun o : aR => match o.2.1 with
              | .inl v => arun P N M ex f o.1 (pc + 3) L (v.toList ++ r) o.2.2
              | .inr k => if xisp xi.1 = true ∨ xcH P.2.2.2.2 xi = false then none else (match xhs M with
                | [] => some [o]
                | _ => (match xhand P.2.2.2.1 (xhs M) pc k with
                  | some hp => (match ahp M hp L with
                    | some (pc', L') => arun P N M ex f o.1 pc' L' [] o.2.2
                    | none => none)
                  | none => none))) os
            | none => none)
          | none => (match athr M xi st S with
            | some (k, S1) => some [(E, .inr k, S1)]
            | none => if xinv xi.1 = true ∧ (P.2.2.2.2[xi.2.2.1]?).isSome = true then none else (match ast N P.1 P.2.1 P.2.2.1 (xmx M) xi E pc L st S with
              | some frs => aall (fun q : aE × aF => arun P N M ex f q.1 q.2.1 q.2.2.1 q.2.2.2.1 q.2.2.2.2) frs
              | none => none))
      else none
    | _ => none
def aargl : Nat → List aV → aL
  | _, [] => []
  | i, v :: vs => (i, v) :: aargl (if acat v = 2 then i + 2 else i + 1) vs
def aex (P : xPk) (N : Option Nat) : Nat → Nat → aE → Nat → List aV → aS → Option (List aR)
  | 0, _, _, _, _, _ => none
  | d + 1, F, E, a, vs, S => match P.2.2.2.2[a]? with
    | some M => if aw vs ≤ xmx M then arun P N M (aex P N d F) F E 0 (aargl 0 vs) [] S else none
    | none => none
