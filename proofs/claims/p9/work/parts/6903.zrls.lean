/-! Rows as lists: what is dropped is filtered. -/
def zspL : List zRo → zRo → Prop
  | [], p => p = (0, 0)
  | r :: l, p => zspL l p ∨ zspL l (zxo p r)
theorem zspL_ap {r p : zRo} : ∀ {l : List zRo}, zspL (l ++ [r]) p ↔ zspL l p ∨ zspL l (zxo p r) := by
  intro l
  induction l generalizing p with
  | nil => exact Iff.rfl
  | cons s l ih =>
    show (zspL (l ++ [r]) p ∨ zspL (l ++ [r]) (zxo p s)) ↔ (zspL l p ∨ zspL l (zxo p s)) ∨ (zspL l (zxo p r) ∨ zspL l (zxo (zxo p r) s))
    rw [ih, ih, zxo_k2 p s r]
    constructor
    · rintro ((h | h) | (h | h))
      · exact Or.inl (Or.inl h)
      · exact Or.inr (Or.inl h)
      · exact Or.inl (Or.inr h)
      · exact Or.inr (Or.inr h)
    · rintro ((h | h) | (h | h))
      · exact Or.inl (Or.inl h)
      · exact Or.inr (Or.inl h)
      · exact Or.inl (Or.inr h)
      · exact Or.inr (Or.inr h)
/-- sums by index and sums of a list -/
theorem zsq_L {P : Nat → Bool} {R : Nat → zRo} : ∀ {u : Nat} {p : zRo}, zsq P R u p ↔ zspL (((List.range u).filter P).map R) p := by
  intro u
  induction u with
  | zero => intro p; exact Iff.rfl
  | succ u ih =>
    intro p
    rw [List.range_succ, List.filter_append, List.map_append]
    cases hP : P u with
    | true =>
      rw [show List.filter P [u] = [u] by rw [List.filter_cons_of_pos hP]; rfl, zsq_s hP, ih, ih]
      exact zspL_ap.symm
    | false =>
      rw [show List.filter P [u] = [] by rw [List.filter_cons_of_neg (by rw [hP]; decide)]; rfl, zsq_n hP, ih]
      show _ ↔ zspL (((List.range u).filter P).map R ++ []) p
      rw [List.append_nil]
theorem zct_L {P : Nat → Bool} : ∀ {u : Nat}, zct P u = ((List.range u).filter P).length := by
  intro u
  induction u with
  | zero => rfl
  | succ u ih =>
    rw [List.range_succ, List.filter_append, List.length_append, ← ih]
    cases hP : P u with
    | true => rw [zct_s hP, List.filter_cons_of_pos hP]; rfl
    | false => rw [zct_n hP, List.filter_cons_of_neg (by rw [hP]; decide)]; rfl
theorem zL_cmp {α : Type} {K : Nat → Bool} {R R' : Nat → α} : ∀ {u : Nat}, (∀ i, i < u → K i = true → R' (zct K i) = R i) → (List.range (zct K u)).map R' = ((List.range u).filter K).map R := by
  intro u
  induction u with
  | zero => intro _; rfl
  | succ u ih =>
    intro h
    have h1 := ih (fun i hi => h i (Nat.lt_succ_of_lt hi))
    rw [List.range_succ, List.filter_append, List.map_append]
    cases hK : K u with
    | true => rw [zct_s hK, List.range_succ, List.map_append, h1, List.filter_cons_of_pos hK]; show _ ++ [R' (zct K u)] = _ ++ [R u]; rw [h u (Nat.lt_succ_self u) hK]
    | false => rw [zct_n hK, h1, List.filter_cons_of_neg (by rw [hK]; decide)]; show _ = _ ++ []; rw [List.append_nil]
theorem zL_fm {α : Type} {R : Nat → α} {k : α → Bool} {l : List Nat} : (l.filter (fun j => k (R j))).map R = (l.map R).filter k := by
  rw [List.filter_map]
  rfl
/-- the rows of both sides, as lists -/
def zLC (m : wm) : List (Int × Int × Int64) := (List.range (zCu0 m)).map fun j => (m.1 23 0 j, m.1 24 0 j, m.2.1 25 0 j)
def zLR (m : wm) : List (Int × Int × Int × Int64) := (List.range (zRu m)).map fun j => (m.1 58 0 j, m.1 59 0 j, m.1 60 0 j, m.2.1 61 0 j)
