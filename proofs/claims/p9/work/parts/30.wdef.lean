/-! Runs over named memory: every cell has a name (kind, number); ints are told as whole numbers. -/
abbrev wv : Type := Int ⊕ (Int64 ⊕ (Option (Nat × Nat) ⊕ Nat))
abbrev wL : Type := List (Nat × wv)
abbrev wm : Type := (Nat → Nat → Nat → Int) × (Nat → Nat → Nat → Int64) × (Nat → Nat → Nat → Nat)
/-- a field: 0 int, 1 boolean, 2 long, 3 a reference that never changes (its kind, its number by the object's) -/
abbrev wfk : Type := Nat × Nat × (Nat → Nat)
/-- a kind: how many; an object (its Java type's number, fields), or an array: 0 int, 1 boolean, 2 long, 3 references that never change, 4 references; lengths; what it is of; kind and numbers of what lies in it -/
abbrev wsh : Type := Nat × ((Nat × List wfk) ⊕ (Nat × (Nat → Nat) × String × Nat × (Nat → Nat → Nat)))
/-- the program, the script, addresses, kinds -/
abbrev wK : Type := xPk × xSc × (Nat → Nat → Nat) × (Nat → Option wsh)
abbrev wF : Type := Nat × wL × List wv × wm
abbrev wO : Type := Option wv ⊕ Nat
def wi (X : Int) : Int32 := Int32.ofInt X
def wcv (K : wK) : wv → Value
  | .inl X => .int (wi X)
  | .inr (.inl x) => .long x
  | .inr (.inr (.inl none)) => .null
  | .inr (.inr (.inl (some q))) => .ref (K.2.2.1 q.1 q.2)
  | .inr (.inr (.inr r)) => .retAddr r
def wcat : wv → Nat
  | .inr (.inl _) => 2
  | _ => 1
def wcl (K : wK) (L : wL) : xL := L.map fun q => (q.1, wcv K q.2)
def wco (K : wK) : wO → xO
  | .inl v => .inl (v.map (wcv K))
  | .inr k => .inr k
def wfv (m : wm) (k i j : Nat) (f : wfk) : wv := match f.1 with
  | 0 => .inl (m.1 k i j)
  | 1 => .inl (m.1 k i j)
  | 2 => .inr (.inl (m.2.1 k i j))
  | _ => .inr (.inr (.inl (some (f.2.1, f.2.2 i))))
def wfs (m : wm) (k i : Nat) : Nat → List wfk → List wv
  | _, [] => []
  | j, f :: fs => wfv m k i j f :: wfs m k i (j + 1) fs
def wcell (K : wK) (m : wm) (k i : Nat) : ((Nat × List wfk) ⊕ (Nat × (Nat → Nat) × String × Nat × (Nat → Nat → Nat))) → xC
  | .inl (c, fs) => .inr (some (c, (wfs m k i 0 fs).map (wcv K)))
  | .inr (t, len, C, k', f) => (match t with
    | 0 => .inl (.int, len i, .inl (fun j => wi (m.1 k i j)))
    | 1 => .inl (.boolean, len i, .inl (fun j => wi (m.1 k i j)))
    | 2 => .inl (.long, len i, .inr (.inl (m.2.1 k i)))
    | 3 => .inl (.object C, len i, .inr (.inr (.inr (.inr (fun j => if j < len i then some (K.2.2.1 k' (f i j)) else none)))))
    | _ => .inl (.object C, len i, .inr (.inr (.inr (.inr (fun j => if j < len i then some (K.2.2.1 k' (m.2.2 k i j)) else none))))))
/-- names are one to one, arrays aren't too long -/
def wG (K : wK) : Prop := (∀ k s i k' s' i', K.2.2.2 k = some s → i < s.1 → K.2.2.2 k' = some s' → i' < s'.1 → K.2.2.1 k i = K.2.2.1 k' i' → k = k' ∧ i = i') ∧ (∀ k c t len C k' f, K.2.2.2 k = some (c, .inr (t, len, C, k', f)) → ∀ i, len i ≤ 65536)
/-- a heap, by its memory: cells and slots made, the cells by their names -/
def wV (K : wK) (n : Nat × Nat) (m : wm) (S : xS) : Prop := wG K ∧ S.1 = n.1 ∧ S.2.1 = n.2 ∧ (∀ k s, K.2.2.2 k = some s → ∀ i, i < s.1 → K.2.2.1 k i < S.1 ∧ xget S.2.2 (K.2.2.1 k i) = some (wcell K m k i s.2)) ∧ ∀ q, q < 2304 → ∃ c, xget S.2.2 q = some c
def wuI (m : wm) (k i j : Nat) (X : Int) : wm := (fun k' i' j' => if k' = k ∧ i' = i ∧ j' = j then X else m.1 k' i' j', m.2)
def wuL (m : wm) (k i j : Nat) (x : Int64) : wm := (m.1, fun k' i' j' => if k' = k ∧ i' = i ∧ j' = j then x else m.2.1 k' i' j', m.2.2)
def wuR (m : wm) (k i j : Nat) (x : Nat) : wm := (m.1, m.2.1, fun k' i' j' => if k' = k ∧ i' = i ∧ j' = j then x else m.2.2 k' i' j')
def wcp (m : wm) (k0 i0 sp k i dp n : Nat) : wm := (fun k' i' j' => if k' = k ∧ i' = i ∧ dp ≤ j' ∧ j' < dp + n then m.1 k0 i0 (sp + (j' - dp)) else m.1 k' i' j', m.2)
def wfind : wL → Nat → Option wv
  | [], _ => none
  | (j, v) :: l, i => if j = i then some v else wfind l i
def wsto1 (l : wL) (i : Nat) (v : wv) : wL := (i, v) :: l.filter (fun q => !(q.1 == i) && !(q.1 + 1 == i && wcat q.2 == 2))
def wsto2 (l : wL) (i : Nat) (v : wv) : wL := (i, v) :: l.filter (fun q => !(q.1 == i) && (!(q.1 == i + 1) && !(q.1 + 1 == i && wcat q.2 == 2)))
def ww (st : List wv) : Nat := (st.map wcat).sum
def wand (X Y : Int) : Int := (wi X &&& wi Y).toInt
def wor (X Y : Int) : Int := (wi X ||| wi Y).toInt
def wxor (X Y : Int) : Int := (wi X ^^^ wi Y).toInt
def wshl (X Y : Int) : Int := (wi X <<< (wi Y &&& 31)).toInt
def wshr (X Y : Int) : Int := (wi X >>> (wi Y &&& 31)).toInt
def wushr (X Y : Int) : Int := ((wi X).toUInt32 >>> ((wi Y).toUInt32 &&& Int32.toUInt32 31)).toInt32.toInt
def wlcmp (x y : Int64) : Int := (lg_cmp x y).toInt
def wl2i (x : Int64) : Int := x.toInt32.toInt
def wi2l (X : Int) : Int64 := (wi X).toInt64
abbrev wR : Type := Option (Option Prop × wF)
def wldI (L : wL) (i pc : Nat) (st : List wv) (m : wm) : wR := match wfind L i with
  | some (.inl X) => some (none, pc, L, .inl X :: st, m)
  | _ => none
def wldL (L : wL) (i pc : Nat) (st : List wv) (m : wm) : wR := match wfind L i with
  | some (.inr (.inl x)) => some (none, pc, L, .inr (.inl x) :: st, m)
  | _ => none
def wldA (L : wL) (i pc : Nat) (st : List wv) (m : wm) : wR := match wfind L i with
  | some (.inr (.inr x)) => some (none, pc, L, .inr (.inr x) :: st, m)
  | _ => none
def wstI (L : wL) (nL i pc : Nat) (st : List wv) (m : wm) : wR := match st with
  | .inl X :: r => if i < nL then some (none, pc, wsto1 L i (.inl X), r, m) else none
  | _ => none
def wstL (L : wL) (nL i pc : Nat) (st : List wv) (m : wm) : wR := match st with
  | .inr (.inl x) :: r => if i + 1 < nL then some (none, pc, wsto2 L i (.inr (.inl x)), r, m) else none
  | _ => none
def wstA (L : wL) (nL i pc : Nat) (st : List wv) (m : wm) : wR := match st with
  | .inr (.inr (.inl x)) :: r => if i < nL then some (none, pc, wsto1 L i (.inr (.inr (.inl x))), r, m) else none
  | _ => none
def wii (st : List wv) (f : Int → Int → Int) (pc : Nat) (L : wL) (m : wm) : wR := match st with
  | .inl Y :: .inl X :: r => some (none, pc, L, .inl (f X Y) :: r, m)
  | _ => none
def wll (st : List wv) (f : Int64 → Int64 → wv) (pc : Nat) (L : wL) (m : wm) : wR := match st with
  | .inr (.inl y) :: .inr (.inl x) :: r => some (none, pc, L, f x y :: r, m)
  | _ => none
def wli (st : List wv) (f : Int64 → Int → wv) (pc : Nat) (L : wL) (m : wm) : wR := match st with
  | .inl Y :: .inr (.inl x) :: r => some (none, pc, L, f x Y :: r, m)
  | _ => none
def wdv (st : List wv) (f : Int → Int → Int) (pc : Nat) (L : wL) (m : wm) : wR := match st with
  | .inl Y :: .inl X :: r => some (some (-2147483648 ≤ X ∧ X ≤ 2147483647 ∧ 0 < Y ∧ Y ≤ 2147483647), pc, L, .inl (f X Y) :: r, m)
  | _ => none
def wald (K : wK) (tg : Nat) (g : Nat → Nat → Nat → wv) (st : List wv) (pc : Nat) (L : wL) (m : wm) : wR := match st with
  | .inl X :: .inr (.inr (.inl (some (k, i)))) :: r => (match K.2.2.2 k with
    | some (c, .inr (t, len, _)) => if t = tg then some (some (i < c ∧ 0 ≤ X ∧ X < len i), pc, L, g k i X.toNat :: r, m) else none
    | _ => none)
  | _ => none
def wiald (K : wK) (st : List wv) (pc : Nat) (L : wL) (m : wm) : wR := match st with
  | .inl X :: .inr (.inr (.inr _)) :: r => some (some (0 ≤ X ∧ X < (K.2.1.1 - 1 : Nat) ∧ X ≤ 2147483647), pc, L, .inl (K.2.1.2 X.toNat).toInt :: r, m)
  | _ => wald K 0 (fun k i j => .inl (m.1 k i j)) st pc L m
def waald (K : wK) (st : List wv) (pc : Nat) (L : wL) (m : wm) : wR := match st with
  | .inl X :: .inr (.inr (.inl (some (k, i)))) :: r => (match K.2.2.2 k with
    | some (c, .inr (3, len, _, k', f)) => some (some (i < c ∧ 0 ≤ X ∧ X < len i), pc, L, .inr (.inr (.inl (some (k', f i X.toNat)))) :: r, m)
    | some (c, .inr (4, len, _, k', _)) => some (some (i < c ∧ 0 ≤ X ∧ X < len i), pc, L, .inr (.inr (.inl (some (k', m.2.2 k i X.toNat)))) :: r, m)
    | _ => none)
  | _ => none
def wlen (K : wK) (st : List wv) (pc : Nat) (L : wL) (m : wm) : wR := match st with
  | .inr (.inr (.inr _)) :: r => if K.2.1.1 = 0 then none else some (none, pc, L, .inl ((K.2.1.1 - 1 : Nat) : Int) :: r, m)
  | .inr (.inr (.inl (some (k, i)))) :: r => (match K.2.2.2 k with
    | some (c, .inr (_, len, _)) => some (some (i < c), pc, L, .inl ((len i : Nat) : Int) :: r, m)
    | _ => none)
  | _ => none
def wast (K : wK) (st : List wv) (pc : Nat) (L : wL) (m : wm) : wR := match st with
  | .inl Y :: .inl X :: .inr (.inr (.inl (some (k, i)))) :: r => (match K.2.2.2 k with
    | some (c, .inr (0, len, _)) => some (some (i < c ∧ 0 ≤ X ∧ X < len i), pc, L, r, wuI m k i X.toNat Y)
    | _ => none)
  | _ => none
def wzast (K : wK) (st : List wv) (pc : Nat) (L : wL) (m : wm) : wR := match st with
  | .inl Y :: .inl X :: .inr (.inr (.inl (some (k, i)))) :: r => (match K.2.2.2 k with
    | some (c, .inr (1, len, _)) => some (some (i < c ∧ 0 ≤ X ∧ X < len i ∧ 0 ≤ Y ∧ Y ≤ 1), pc, L, r, wuI m k i X.toNat Y)
    | _ => none)
  | _ => none
def wlast (K : wK) (st : List wv) (pc : Nat) (L : wL) (m : wm) : wR := match st with
  | .inr (.inl y) :: .inl X :: .inr (.inr (.inl (some (k, i)))) :: r => (match K.2.2.2 k with
    | some (c, .inr (2, len, _)) => some (some (i < c ∧ 0 ≤ X ∧ X < len i), pc, L, r, wuL m k i X.toNat y)
    | _ => none)
  | _ => none
def waast (K : wK) (st : List wv) (pc : Nat) (L : wL) (m : wm) : wR := match st with
  | .inr (.inr (.inl (some (k2, i2)))) :: .inl X :: .inr (.inr (.inl (some (k, i)))) :: r => (match K.2.2.2 k, K.2.2.2 k2 with
    | some (c, .inr (4, len, C, k', _)), some (c2, .inl (ci, _)) => if k' = k2 ∧ (K.1.1[ci]?).map (fun q => q.1) = some C then some (some (i < c ∧ 0 ≤ X ∧ X < len i ∧ i2 < c2), pc, L, r, wuR m k i X.toNat i2) else none
    | _, _ => none)
  | _ => none
def wgetf (K : wK) (ci kf : Nat) (st : List wv) (pc : Nat) (L : wL) (m : wm) : wR := match st with
  | .inr (.inr (.inl (some (k, i)))) :: r => (match K.2.2.2 k with
    | some (c, .inl (cj, fs)) => if cj = ci then (match fs[kf]? with
      | some f => some (some (i < c), pc, L, wfv m k i kf f :: r, m)
      | none => none) else none
    | _ => none)
  | _ => none
def wputf (K : wK) (ci kf : Nat) (st : List wv) (pc : Nat) (L : wL) (m : wm) : wR := match st with
  | v :: .inr (.inr (.inl (some (k, i)))) :: r => (match K.2.2.2 k with
    | some (c, .inl (cj, fs)) => if cj = ci then (match fs[kf]?, v with
      | some (0, _), .inl Y => if K.1.2.1 ci kf = .int then some (some (i < c), pc, L, r, wuI m k i kf Y) else none
      | some (1, _), .inl Y => if K.1.2.1 ci kf = .boolean then some (some (i < c ∧ 0 ≤ Y ∧ Y ≤ 1), pc, L, r, wuI m k i kf Y) else none
      | some (2, _), .inr (.inl y) => if K.1.2.1 ci kf = .long then some (some (i < c), pc, L, r, wuL m k i kf y) else none
      | _, _ => none) else none
    | _ => none)
  | _ => none
def wsp (K : wK) (a : Nat) (st : List wv) (pc : Nat) (L : wL) (m : wm) : wR :=
  if 16 < ww st then none
  else if a = xMax then (match st with
    | .inl Y :: .inl X :: r => some (some (-2147483648 ≤ X ∧ X ≤ 2147483647 ∧ -2147483648 ≤ Y ∧ Y ≤ 2147483647), pc, L, .inl (max X Y) :: r, m)
    | _ => none)
  else if a = xMin then (match st with
    | .inl Y :: .inl X :: r => some (some (-2147483648 ≤ X ∧ X ≤ 2147483647 ∧ -2147483648 ≤ Y ∧ Y ≤ 2147483647), pc, L, .inl (min X Y) :: r, m)
    | _ => none)
  else if a = xCopy then (match st with
    | .inl N :: .inl D :: .inr (.inr (.inl (some (k, i)))) :: .inl S :: .inr (.inr (.inl (some (k0, i0)))) :: r => (match K.2.2.2 k0, K.2.2.2 k with
      | some (c0, .inr (0, len0, _)), some (c, .inr (0, len, _)) => some (some (i0 < c0 ∧ i < c ∧ 0 ≤ N ∧ 0 ≤ D ∧ 0 ≤ S ∧ S + N ≤ len0 i0 ∧ D + N ≤ len i), pc, L, r, wcp m k0 i0 S.toNat k i D.toNat N.toNat)
      | _, _ => none)
    | _ => none)
  else none
/-- one step: what must hold for it, and what comes behind it -/
def wst (K : wK) (M : xM) (xi : xI) (pc : Nat) (L : wL) (st : List wv) (m : wm) : wR := match xi.1 with
  | .aconst_null => some (none, pc + 1, L, .inr (.inr (.inl none)) :: st, m)
  | .aload i => wldA L i (pc + 2) st m
  | .aload_n i => wldA L i.val (pc + 1) st m
  | .iload i => wldI L i (pc + 2) st m
  | .iload_n i => wldI L i.val (pc + 1) st m
  | .lload i => wldL L i (pc + 2) st m
  | .lload_n i => wldL L i.val (pc + 1) st m
  | .astore i => wstA L (xmx M) i (pc + 2) st m
  | .astore_n i => wstA L (xmx M) i.val (pc + 1) st m
  | .istore i => wstI L (xmx M) i (pc + 2) st m
  | .istore_n i => wstI L (xmx M) i.val (pc + 1) st m
  | .lstore i => wstL L (xmx M) i (pc + 2) st m
  | .lstore_n i => wstL L (xmx M) i.val (pc + 1) st m
  | .iinc i n => (match wfind L i with
    | some (.inl X) => if i < xmx M then some (none, pc + 3, wsto1 L i (.inl (X + n)), st, m) else none
    | _ => none)
  | .iconst n => some (none, pc + 1, L, .inl n :: st, m)
  | .bipush n => if -128 ≤ n ∧ n < 128 then some (none, pc + 2, L, .inl n :: st, m) else none
  | .sipush n => if -32768 ≤ n ∧ n < 32768 then some (none, pc + 3, L, .inl n :: st, m) else none
  | .lconst n => some (none, pc + 1, L, .inr (.inl (Int64.ofNat n.val)) :: st, m)
  | .ldc _ => some (none, pc + 2, L, .inl xi.2.2.2.2.1 :: st, m)
  | .ldc_w _ => some (none, pc + 3, L, .inl xi.2.2.2.2.1 :: st, m)
  | .ldc2_w _ => some (none, pc + 3, L, .inr (.inl (Int64.ofInt xi.2.2.2.2.1)) :: st, m)
  | .iadd => wii st (fun X Y => X + Y) (pc + 1) L m
  | .isub => wii st (fun X Y => X - Y) (pc + 1) L m
  | .imul => wii st (fun X Y => X * Y) (pc + 1) L m
  | .iand => wii st wand (pc + 1) L m
  | .ior => wii st wor (pc + 1) L m
  | .ixor => wii st wxor (pc + 1) L m
  | .ishl => wii st wshl (pc + 1) L m
  | .ishr => wii st wshr (pc + 1) L m
  | .iushr => wii st wushr (pc + 1) L m
  | .idiv => wdv st Int.tdiv (pc + 1) L m
  | .irem => wdv st Int.tmod (pc + 1) L m
  | .ineg => (match st with
    | .inl X :: r => some (none, pc + 1, L, .inl (-X) :: r, m)
    | _ => none)
  | .i2l => (match st with
    | .inl X :: r => some (none, pc + 1, L, .inr (.inl (wi2l X)) :: r, m)
    | _ => none)
  | .l2i => (match st with
    | .inr (.inl x) :: r => some (none, pc + 1, L, .inl (wl2i x) :: r, m)
    | _ => none)
  | .land => wll st (fun x y => .inr (.inl (x &&& y))) (pc + 1) L m
  | .lor => wll st (fun x y => .inr (.inl (x ||| y))) (pc + 1) L m
  | .lxor => wll st (fun x y => .inr (.inl (x ^^^ y))) (pc + 1) L m
  | .lmul => wll st (fun x y => .inr (.inl (x * y))) (pc + 1) L m
  | .lcmp => wll st (fun x y => .inl (wlcmp x y)) (pc + 1) L m
  | .lshl => wli st (fun x Y => .inr (.inl (x <<< (wi2l Y &&& 63)))) (pc + 1) L m
  | .lshr => wli st (fun x Y => .inr (.inl (x >>> (wi2l Y &&& 63)))) (pc + 1) L m
  | .lushr => wli st (fun x Y => .inr (.inl (x.toUInt64 >>> ((wi2l Y).toUInt64 &&& Int64.toUInt64 63)).toInt64)) (pc + 1) L m
  | .dup => (match st with
    | v :: r => if wcat v = 1 then some (none, pc + 1, L, v :: v :: r, m) else none
    | _ => none)
  | .pop => (match st with
    | v :: r => if wcat v = 1 then some (none, pc + 1, L, r, m) else none
    | _ => none)
  | .dup2 => (match st with
    | v :: w :: r => if wcat v = 1 ∧ wcat w = 1 then some (none, pc + 1, L, v :: w :: v :: w :: r, m) else none
    | _ => none)
  | .goto off => (match xtg pc off with
    | some t => some (none, t, L, st, m)
    | none => none)
  | .iaload => wiald K st (pc + 1) L m
  | .baload => wald K 1 (fun k i j => .inl (m.1 k i j)) st (pc + 1) L m
  | .laload => wald K 2 (fun k i j => .inr (.inl (m.2.1 k i j))) st (pc + 1) L m
  | .aaload => waald K st (pc + 1) L m
  | .arraylength => wlen K st (pc + 1) L m
  | .iastore => wast K st (pc + 1) L m
  | .bastore => wzast K st (pc + 1) L m
  | .lastore => wlast K st (pc + 1) L m
  | .aastore => waast K st (pc + 1) L m
  | .getfield _ => wgetf K xi.2.2.1 xi.2.2.2.1 st (pc + 3) L m
  | .putfield _ => wputf K xi.2.2.1 xi.2.2.2.1 st (pc + 3) L m
  | .invokestatic _ => if K.1.2.2.2.2[xi.2.2.1]? = none then wsp K xi.2.2.1 st (pc + 3) L m else none
  | _ => none
