/-! A small machine of its own: one heap of numbered cells, frames as lists; no tables, no states. A run of it is a function that can be computed. -/
abbrev xL : Type := List (Nat × Value)
/-- a cell: an array (element type, length and contents), an object (class number, fields), or something of which nothing is said -/
abbrev xC : Type := (FieldType × vp_A) ⊕ Option (Nat × List Value)
/-- cells made, slots made, the cells -/
abbrev xS : Type := Nat × Nat × List (List xC)
/-- an outcome: an answer, or the kind of what was thrown -/
abbrev xO : Type := Option Value ⊕ Nat
/-- two numbers, a constant, the place of its first word -/
abbrev xP : Type := Nat × Nat × Int × Nat
/-- an instruction, its length, what its pool entry is -/
abbrev xI : Type := Instr × Nat × xP
/-- pc, locals, stack, heap -/
abbrev xF : Type := Nat × xL × List Value × xS
/-- a script: one more than its length (0: there is none), its ints; its reference is told as .retAddr 0 -/
abbrev xSc : Type := Nat × (Nat → Int32)
def xget (h : List (List xC)) (k : Nat) : Option xC := (h.getD (k / 48) [])[k % 48]?
def xset (h : List (List xC)) (k : Nat) (c : xC) : List (List xC) := h.set (k / 48) ((h.getD (k / 48) []).set (k % 48) c)
theorem xget_set_self {h : List (List xC)} {k : Nat} {c0 c : xC} (hk : xget h k = some c0) : xget (xset h k c) k = some c := by
  unfold xget at hk
  unfold xget xset
  have hl : k / 48 < h.length := by
    rcases Nat.lt_or_ge (k / 48) h.length with q | q
    · exact q
    · rw [List.getD_eq_getElem?_getD, List.getElem?_eq_none q] at hk
      simp at hk
  rw [List.getD_eq_getElem?_getD (l := h.set _ _), List.getElem?_set_self hl, Option.getD_some]
  exact List.getElem?_set_self (List.getElem?_eq_some_iff.mp hk).1
theorem xget_set_ne {h : List (List xC)} {k j : Nat} {c : xC} (hj : j ≠ k) : xget (xset h k c) j = xget h j := by
  unfold xget xset
  by_cases hq : j / 48 = k / 48
  · have hr : k % 48 ≠ j % 48 := by omega
    rw [hq]
    rcases Nat.lt_or_ge (k / 48) h.length with q | q
    · rw [List.getD_eq_getElem?_getD (l := h.set _ _), List.getElem?_set_self q, Option.getD_some, List.getElem?_set_ne hr]
    · rw [List.set_eq_of_length_le q]
  · simp only [List.getD_eq_getElem?_getD]
    rw [List.getElem?_set_ne (fun q => hq q.symm)]
/-- one more cell of w slots -/
def xnew (S : xS) (c : xC) (w : Nat) : Option xS := match xget S.2.2 S.1 with
  | some _ => some (S.1 + 1, S.2.1 + w, xset S.2.2 S.1 c)
  | none => none
def xput (S : xS) (k : Nat) (c : xC) : xS := (S.1, S.2.1, xset S.2.2 k c)
def xat (S : xS) (k : Nat) : Option xC := if k < S.1 then xget S.2.2 k else none
def xfind : xL → Nat → Option Value
  | [], _ => none
  | (j, v) :: l, i => if j = i then some v else xfind l i
def xsto1 (l : xL) (i : Nat) (v : Value) : xL := (i, v) :: l.filter (fun q => !(q.1 == i) && !(q.1 + 1 == i && q.2.category == 2))
def xsto2 (l : xL) (i : Nat) (v : Value) : xL := (i, v) :: l.filter (fun q => !(q.1 == i) && (!(q.1 == i + 1) && !(q.1 + 1 == i && q.2.category == 2)))
def xtg (pc : Nat) (off : Int) : Option Nat := if 0 ≤ (pc : Int) + off then some ((pc : Int) + off).toNat else none
def xin (i : Int32) (n : Nat) : Bool := !(decide (i < 0)) && decide (i.toNatClampNeg < n)
def xcmp : ClassFile.Cond → Int32 → Int32 → Bool
  | .eq, x, y => decide (x = y)
  | .ne, x, y => !decide (x = y)
  | .lt, x, y => decide (x < y)
  | .ge, x, y => decide (y ≤ x)
  | .gt, x, y => decide (y < x)
  | .le, x, y => decide (x ≤ y)
def xii (st : List Value) (f : Int32 → Int32 → Option Int32) : Option (List Value) := match st with
  | .int y :: .int x :: r => (f x y).map fun z => .int z :: r
  | _ => none
def xll (st : List Value) (f : Int64 → Int64 → Value) : Option (List Value) := match st with
  | .long y :: .long x :: r => some (f x y :: r)
  | _ => none
def xli (st : List Value) (f : Int64 → Int32 → Value) : Option (List Value) := match st with
  | .int y :: .long x :: r => some (f x y :: r)
  | _ => none
def xi1 (st : List Value) (f : Int32 → Value) : Option (List Value) := match st with
  | .int x :: r => some (f x :: r)
  | _ => none
def xl1 (st : List Value) (f : Int64 → Value) : Option (List Value) := match st with
  | .long x :: r => some (f x :: r)
  | _ => none
def xldI (l : xL) (i : Nat) : Option Value := match xfind l i with
  | some (.int x) => some (.int x)
  | _ => none
def xldL (l : xL) (i : Nat) : Option Value := match xfind l i with
  | some (.long x) => some (.long x)
  | _ => none
def xldA (l : xL) (i : Nat) : Option Value := match xfind l i with
  | some (.ref x) => some (.ref x)
  | some .null => some .null
  | some (.retAddr x) => some (.retAddr x)
  | _ => none
def xstI (l : xL) (nL i : Nat) (st : List Value) : Option (xL × List Value) := match st with
  | .int x :: r => if i < nL then some (xsto1 l i (.int x), r) else none
  | _ => none
def xstL (l : xL) (nL i : Nat) (st : List Value) : Option (xL × List Value) := match st with
  | .long x :: r => if i + 1 < nL then some (xsto2 l i (.long x), r) else none
  | _ => none
def xstA (l : xL) (nL i : Nat) (st : List Value) : Option (xL × List Value) := match st with
  | .ref x :: r => if i < nL then some (xsto1 l i (.ref x), r) else none
  | .null :: r => if i < nL then some (xsto1 l i .null, r) else none
  | _ => none
def xif (c : ClassFile.Cond) (pc : Nat) (off : Int) (st : List Value) : Option (Nat × List Value) := match st with
  | .int x :: r => (xtg pc off).map fun t => (bif xcmp c x 0 then t else pc + 3, r)
  | _ => none
def xicmp (c : ClassFile.Cond) (pc : Nat) (off : Int) (st : List Value) : Option (Nat × List Value) := match st with
  | .int y :: .int x :: r => (xtg pc off).map fun t => (bif xcmp c x y then t else pc + 3, r)
  | _ => none
def xnul (onNull : Bool) (pc : Nat) (off : Int) (st : List Value) : Option (Nat × List Value) := match st with
  | .null :: r => (xtg pc off).map fun t => (bif onNull then t else pc + 3, r)
  | .ref _ :: r => (xtg pc off).map fun t => (bif onNull then pc + 3 else t, r)
  | _ => none
def xtab (d lo hi : Int) (offs : Array Int) (pc : Nat) (st : List Value) : Option (Nat × List Value) := match st with
  | .int x :: r => if x.toInt < lo ∨ hi < x.toInt then (xtg pc d).map fun t => (t, r) else
    match offs[(x.toInt - lo).toNat]? with
    | some off => (xtg pc off).map fun t => (t, r)
    | none => none
  | _ => none
def xlook (d : Int) (ps : Array (Int × Int)) (pc : Nat) (st : List Value) : Option (Nat × List Value) := match st with
  | .int x :: r => if (ps.toList.zip (ps.toList.drop 1)).all (fun (a, next) => a.1 < next.1) = true then (xtg pc (Op.lookupswitch.offset ps.toList d x.toInt)).map fun t => (t, r) else none
  | _ => none
/-- reads of arrays -/
def xiald (sc : xSc) (S : xS) (st : List Value) : Option (List Value) := match st with
  | .int i :: .retAddr _ :: r => if xin i (sc.1 - 1) then some (.int (sc.2 i.toNatClampNeg) :: r) else none
  | .int i :: .ref a :: r => match xat S a with
    | some (.inl (.int, n, .inl f)) => if xin i n then some (.int (f i.toNatClampNeg) :: r) else none
    | _ => none
  | _ => none
def xzald (S : xS) (st : List Value) : Option (List Value) := match st with
  | .int i :: .ref a :: r => match xat S a with
    | some (.inl (.boolean, n, .inl f)) => if xin i n then some (.int (f i.toNatClampNeg) :: r) else none
    | _ => none
  | _ => none
def xlald (S : xS) (st : List Value) : Option (List Value) := match st with
  | .int i :: .ref a :: r => match xat S a with
    | some (.inl (.long, n, .inr (.inl f))) => if xin i n then some (.long (f i.toNatClampNeg) :: r) else none
    | _ => none
  | _ => none
def xaald (S : xS) (st : List Value) : Option (List Value) := match st with
  | .int i :: .ref a :: r => match xat S a with
    | some (.inl (.object _, n, .inr (.inr (.inr (.inr f))))) => if xin i n then some (va_rf (f i.toNatClampNeg) :: r) else none
    | _ => none
  | _ => none
def xlen (sc : xSc) (S : xS) (st : List Value) : Option (List Value) := match st with
  | .retAddr _ :: r => if sc.1 = 0 then none else some (.int (Int32.ofNat (sc.1 - 1)) :: r)
  | .ref a :: r => match xat S a with
    | some (.inl (_, x)) => some (.int (Int32.ofNat x.1) :: r)
    | _ => none
  | _ => none
/-- writes of arrays -/
def xiast (S : xS) (st : List Value) : Option (List Value × xS) := match st with
  | .int x :: .int i :: .ref a :: r => match xat S a with
    | some (.inl (.int, n, .inl f)) => if xin i n then some (r, xput S a (.inl (.int, n, .inl (upd f i.toNatClampNeg x)))) else none
    | _ => none
  | _ => none
def xzast (S : xS) (st : List Value) : Option (List Value × xS) := match st with
  | .int x :: .int i :: .ref a :: r => match xat S a with
    | some (.inl (.boolean, n, .inl f)) => if xin i n then some (r, xput S a (.inl (.boolean, n, .inl (upd f i.toNatClampNeg (vp_nar .boolean x))))) else none
    | _ => none
  | _ => none
def xlast (S : xS) (st : List Value) : Option (List Value × xS) := match st with
  | .long x :: .int i :: .ref a :: r => match xat S a with
    | some (.inl (.long, n, .inr (.inl f))) => if xin i n then some (r, xput S a (.inl (.long, n, .inr (.inl (vp_updL f i.toNatClampNeg x))))) else none
    | _ => none
  | _ => none
def xaast (cl : List vw_C) (S : xS) (st : List Value) : Option (List Value × xS) := match st with
  | .ref v :: .int i :: .ref a :: r => match xat S a, xat S v with
    | some (.inl (.object C, n, .inr (.inr (.inr (.inr f))))), some (.inr (some (ci, _))) =>
      if xin i n && decide ((cl[ci]?).map (fun q => q.1) = some C) then some (r, xput S a (.inl (.object C, n, .inr (.inr (.inr (.inr (va_up f i.toNatClampNeg (some v)))))))) else none
    | _, _ => none
  | _ => none
/-- a value may lie in a field of a type, and be an answer of it -/
def xfit (ty : FieldType) (v : Value) : Bool := match ty with
  | .int => (match v with
    | .int _ => true
    | _ => false)
  | .long => (match v with
    | .long _ => true
    | _ => false)
  | .boolean => (match v with
    | .int x => decide (x = 0) || decide (x = 1)
    | _ => false)
  | .object _ => (match v with
    | .ref _ => true
    | .null => true
    | _ => false)
  | .array _ => (match v with
    | .ref _ => true
    | .null => true
    | _ => false)
  | _ => false
theorem xfit_ok {ty : FieldType} {v : Value} (h : xfit ty v = true) : narrow ty v = v ∧ fits ty v = true := by
  unfold xfit at h
  split at h
  · split at h
    · exact ⟨rfl, rfl⟩
    · cases h
  · split at h
    · exact ⟨rfl, rfl⟩
    · cases h
  · split at h
    · rename_i x
      simp only [Bool.or_eq_true, decide_eq_true_eq] at h
      rcases h with rfl | rfl
      · exact ⟨by decide +kernel, by decide +kernel⟩
      · exact ⟨by decide +kernel, by decide +kernel⟩
    · cases h
  · split at h
    · exact ⟨rfl, rfl⟩
    · exact ⟨rfl, rfl⟩
    · cases h
  · split at h
    · exact ⟨rfl, rfl⟩
    · exact ⟨rfl, rfl⟩
    · cases h
  · cases h
/-- fields -/
def xgetf (S : xS) (ci k : Nat) (st : List Value) : Option (List Value) := match st with
  | .ref a :: r => match xat S a with
    | some (.inr (some (cj, fs))) => if cj = ci then (fs[k]?).map fun v => v :: r else none
    | _ => none
  | _ => none
def xputf (S : xS) (ci k : Nat) (ty : FieldType) (st : List Value) : Option (List Value × xS) := match st with
  | v :: .ref a :: r => match xat S a with
    | some (.inr (some (cj, fs))) => if cj = ci ∧ k < fs.length ∧ xfit ty v = true then some (r, xput S a (.inr (some (ci, fs.set k v)))) else none
    | _ => none
  | _ => none
/-- makings -/
def xnewa (S : xS) (at0 : ArrayType) (st : List Value) : Option (List Value × xS) := match st with
  | .int n :: r => if n < 0 ∨ 65536 < n.toNatClampNeg then none else
    match at0 with
    | .int => (xnew S (.inl (.int, n.toNatClampNeg, .inl fun _ => 0)) n.toNatClampNeg).map fun S' => (.ref S.1 :: r, S')
    | .boolean => (xnew S (.inl (.boolean, n.toNatClampNeg, .inl fun _ => 0)) n.toNatClampNeg).map fun S' => (.ref S.1 :: r, S')
    | .long => (xnew S (.inl (.long, n.toNatClampNeg, .inr (.inl fun _ => 0))) n.toNatClampNeg).map fun S' => (.ref S.1 :: r, S')
    | _ => none
  | _ => none
def xnewq (S : xS) (C : String) (st : List Value) : Option (List Value × xS) := match st with
  | .int n :: r => if n < 0 ∨ 65536 < n.toNatClampNeg then none else (xnew S (.inl (.object C, n.toNatClampNeg, .inr (.inr (.inr (.inr fun _ => none))))) n.toNatClampNeg).map fun S' => (.ref S.1 :: r, S')
  | _ => none
def xcpy (S : xS) (st : List Value) : Option (List Value × xS) := match st with
  | .int n :: .int dp :: .ref a :: .int sp :: .ref a0 :: r => match xat S a0, xat S a with
    | some (.inl (.int, n0, .inl f)), some (.inl (.int, n1, .inl g)) =>
      if sp < 0 ∨ dp < 0 ∨ n < 0 then none else
      if sp.toNatClampNeg + n.toNatClampNeg ≤ n0 ∧ dp.toNatClampNeg + n.toNatClampNeg ≤ n1 then some (r, xput S a (.inl (.int, n1, .inl (va_cpy f g sp.toNatClampNeg dp.toNatClampNeg n.toNatClampNeg)))) else none
    | _, _ => none
  | _ => none
def xlenOf (i : Instr) (len : Nat) : Nat := match i with
  | .tableswitch _ _ _ _ => len
  | .lookupswitch _ _ => len
  | .aload _ => 2
  | .iload _ => 2
  | .lload _ => 2
  | .astore _ => 2
  | .istore _ => 2
  | .lstore _ => 2
  | .bipush _ => 2
  | .ldc _ => 2
  | .newarray _ => 2
  | .iinc _ _ => 3
  | .sipush _ => 3
  | .ldc_w _ => 3
  | .ldc2_w _ => 3
  | .goto _ => 3
  | .if_icmp _ _ => 3
  | .ifCond _ _ => 3
  | .ifnull _ => 3
  | .ifnonnull _ => 3
  | .getfield _ => 3
  | .putfield _ => 3
  | .new _ => 3
  | .anewarray _ => 3
  | .invokestatic _ => 3
  | .invokevirtual _ => 3
  | .invokespecial _ => 3
  | _ => 1
/-- the numbers of the methods that are no code of ours -/
abbrev xObj : Nat := 1000
abbrev xMax : Nat := 1001
abbrev xMin : Nat := 1002
abbrev xCopy : Nat := 1003
def xw (st : List Value) : Nat := (st.map fun v => v.category).sum
def xsp (k : Nat) (st : List Value) (S : xS) : Option (List Value × xS) :=
  if 16 < xw st then none
  else if k = xObj then (match st with
    | .ref _ :: r => some (r, S)
    | _ => none)
  else if k = xMax then (xii st fun x y => some (if x < y then y else x)).map fun t => (t, S)
  else if k = xMin then (xii st fun x y => some (if y < x then y else x)).map fun t => (t, S)
  else if k = xCopy then xcpy S st
  else none
/-- one step of an instruction that calls no method of ours and doesn't end -/
def xst (sc : xSc) (cl : List vw_C) (fty : Nat → Nat → FieldType) (fdef : Nat → List Value) (nL : Nat) (xi : xI) (pc : Nat) (ls : xL) (st : List Value) (S : xS) : Option xF := match xi.1 with
  | .aconst_null => some (pc + 1, ls, .null :: st, S)
  | .aload i => (xldA ls i).map fun v => (pc + 2, ls, v :: st, S)
  | .aload_n i => (xldA ls i.val).map fun v => (pc + 1, ls, v :: st, S)
  | .iload i => (xldI ls i).map fun v => (pc + 2, ls, v :: st, S)
  | .iload_n i => (xldI ls i.val).map fun v => (pc + 1, ls, v :: st, S)
  | .lload i => (xldL ls i).map fun v => (pc + 2, ls, v :: st, S)
  | .lload_n i => (xldL ls i.val).map fun v => (pc + 1, ls, v :: st, S)
  | .astore i => (xstA ls nL i st).map fun q => (pc + 2, q.1, q.2, S)
  | .astore_n i => (xstA ls nL i.val st).map fun q => (pc + 1, q.1, q.2, S)
  | .istore i => (xstI ls nL i st).map fun q => (pc + 2, q.1, q.2, S)
  | .istore_n i => (xstI ls nL i.val st).map fun q => (pc + 1, q.1, q.2, S)
  | .lstore i => (xstL ls nL i st).map fun q => (pc + 2, q.1, q.2, S)
  | .lstore_n i => (xstL ls nL i.val st).map fun q => (pc + 1, q.1, q.2, S)
  | .iinc i n => (match xfind ls i with
    | some (.int x) => if i < nL then some (pc + 3, xsto1 ls i (.int (x + Int32.ofInt n)), st, S) else none
    | _ => none)
  | .iconst n => some (pc + 1, ls, .int (Int32.ofInt n) :: st, S)
  | .bipush n => some (pc + 2, ls, .int (Int8.ofInt n).toInt32 :: st, S)
  | .sipush n => some (pc + 3, ls, .int (Int16.ofInt n).toInt32 :: st, S)
  | .lconst n => some (pc + 1, ls, .long (Int64.ofNat n.val) :: st, S)
  | .ldc _ => some (pc + 2, ls, .int (Int32.ofInt xi.2.2.2.2.1) :: st, S)
  | .ldc_w _ => some (pc + 3, ls, .int (Int32.ofInt xi.2.2.2.2.1) :: st, S)
  | .ldc2_w _ => some (pc + 3, ls, .long (Int64.ofInt xi.2.2.2.2.1) :: st, S)
  | .iadd => (xii st fun x y => some (x + y)).map fun t => (pc + 1, ls, t, S)
  | .isub => (xii st fun x y => some (x - y)).map fun t => (pc + 1, ls, t, S)
  | .imul => (xii st fun x y => some (x * y)).map fun t => (pc + 1, ls, t, S)
  | .iand => (xii st fun x y => some (x &&& y)).map fun t => (pc + 1, ls, t, S)
  | .ior => (xii st fun x y => some (x ||| y)).map fun t => (pc + 1, ls, t, S)
  | .ixor => (xii st fun x y => some (x ^^^ y)).map fun t => (pc + 1, ls, t, S)
  | .ishl => (xii st fun x y => some (x <<< (y &&& 31))).map fun t => (pc + 1, ls, t, S)
  | .ishr => (xii st fun x y => some (x >>> (y &&& 31))).map fun t => (pc + 1, ls, t, S)
  | .iushr => (xii st fun x y => some (x.toUInt32 >>> (y.toUInt32 &&& Int32.toUInt32 31)).toInt32).map fun t => (pc + 1, ls, t, S)
  | .idiv => (xii st fun x y => if y = 0 then none else some (x / y)).map fun t => (pc + 1, ls, t, S)
  | .irem => (xii st fun x y => if y = 0 then none else some (x - x / y * y)).map fun t => (pc + 1, ls, t, S)
  | .ineg => (xi1 st fun x => .int (-x)).map fun t => (pc + 1, ls, t, S)
  | .i2l => (xi1 st fun x => .long x.toInt64).map fun t => (pc + 1, ls, t, S)
  | .l2i => (xl1 st fun x => .int x.toInt32).map fun t => (pc + 1, ls, t, S)
  | .land => (xll st fun x y => .long (x &&& y)).map fun t => (pc + 1, ls, t, S)
  | .lor => (xll st fun x y => .long (x ||| y)).map fun t => (pc + 1, ls, t, S)
  | .lxor => (xll st fun x y => .long (x ^^^ y)).map fun t => (pc + 1, ls, t, S)
  | .lmul => (xll st fun x y => .long (x * y)).map fun t => (pc + 1, ls, t, S)
  | .lcmp => (xll st fun x y => .int (lg_cmp x y)).map fun t => (pc + 1, ls, t, S)
  | .lshl => (xli st fun x y => .long (x <<< (y.toInt64 &&& 63))).map fun t => (pc + 1, ls, t, S)
  | .lshr => (xli st fun x y => .long (x >>> (y.toInt64 &&& 63))).map fun t => (pc + 1, ls, t, S)
  | .lushr => (xli st fun x y => .long (x.toUInt64 >>> (y.toInt64.toUInt64 &&& Int64.toUInt64 63)).toInt64).map fun t => (pc + 1, ls, t, S)
  | .dup => (match st with
    | v :: r => if v.category = 1 then some (pc + 1, ls, v :: v :: r, S) else none
    | _ => none)
  | .pop => (match st with
    | v :: r => if v.category = 1 then some (pc + 1, ls, r, S) else none
    | _ => none)
  | .dup2 => (match st with
    | v :: w :: r => if v.category = 1 ∧ w.category = 1 then some (pc + 1, ls, v :: w :: v :: w :: r, S) else none
    | _ => none)
  | .goto off => (xtg pc off).map fun t => (t, ls, st, S)
  | .ifCond c off => (xif c pc off st).map fun q => (q.1, ls, q.2, S)
  | .if_icmp c off => (xicmp c pc off st).map fun q => (q.1, ls, q.2, S)
  | .ifnull off => (xnul true pc off st).map fun q => (q.1, ls, q.2, S)
  | .ifnonnull off => (xnul false pc off st).map fun q => (q.1, ls, q.2, S)
  | .tableswitch d lo hi offs => (xtab d lo hi offs pc st).map fun q => (q.1, ls, q.2, S)
  | .lookupswitch d ps => (xlook d ps pc st).map fun q => (q.1, ls, q.2, S)
  | .iaload => (xiald sc S st).map fun t => (pc + 1, ls, t, S)
  | .baload => (xzald S st).map fun t => (pc + 1, ls, t, S)
  | .laload => (xlald S st).map fun t => (pc + 1, ls, t, S)
  | .aaload => (xaald S st).map fun t => (pc + 1, ls, t, S)
  | .arraylength => (xlen sc S st).map fun t => (pc + 1, ls, t, S)
  | .iastore => (xiast S st).map fun q => (pc + 1, ls, q.1, q.2)
  | .bastore => (xzast S st).map fun q => (pc + 1, ls, q.1, q.2)
  | .lastore => (xlast S st).map fun q => (pc + 1, ls, q.1, q.2)
  | .aastore => (xaast cl S st).map fun q => (pc + 1, ls, q.1, q.2)
  | .getfield _ => (xgetf S xi.2.2.1 xi.2.2.2.1 st).map fun t => (pc + 3, ls, t, S)
  | .putfield _ => (xputf S xi.2.2.1 xi.2.2.2.1 (fty xi.2.2.1 xi.2.2.2.1) st).map fun q => (pc + 3, ls, q.1, q.2)
  | .newarray a => (xnewa S a st).map fun q => (pc + 2, ls, q.1, q.2)
  | .anewarray _ => (match cl[xi.2.2.1]? with
    | some q => (xnewq S q.1 st).map fun q => (pc + 3, ls, q.1, q.2)
    | none => none)
  | .new _ => (match cl[xi.2.2.1]? with
    | some q => (xnew S (.inr (some (xi.2.2.1, fdef xi.2.2.1))) q.2.2).map fun S' => (pc + 3, ls, .ref S.1 :: st, S')
    | none => none)
  | .invokestatic _ => if xi.2.2.1 = xObj then none else (xsp xi.2.2.1 st S).map fun q => (pc + 3, ls, q.1, q.2)
  | .invokespecial _ => if xi.2.2.1 = xObj then (xsp xObj st S).map fun q => (pc + 3, ls, q.1, q.2) else none
  | _ => none
