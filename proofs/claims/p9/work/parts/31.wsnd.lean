/-! Steps over named memory are steps of the small machine. -/
theorem wi_toInt {X : Int} (h1 : -2147483648 ≤ X) (h2 : X ≤ 2147483647) : (wi X).toInt = X := Int32.toInt_ofInt_of_le (by omega) (by omega)
theorem wi_of (x : Int32) : wi x.toInt = x := Int32.ofInt_toInt x
theorem wi_add (X Y : Int) : wi X + wi Y = wi (X + Y) := (Int32.ofInt_add X Y).symm
theorem wi_sub (X Y : Int) : wi X - wi Y = wi (X - Y) := (Int32.ofInt_sub X Y).symm
theorem wi_mul (X Y : Int) : wi X * wi Y = wi (X * Y) := (Int32.ofInt_mul X Y).symm
theorem wi_neg (X : Int) : - wi X = wi (-X) := (Int32.ofInt_neg X).symm
theorem win {X : Int} {n : Nat} (h0 : 0 ≤ X) (h1 : X < n) (hn : n ≤ 65536) : xin (wi X) n = true ∧ (wi X).toNatClampNeg = X.toNat := by
  have e : (wi X).toInt = X := wi_toInt (by omega) (by omega)
  have e2 : (wi X).toNatClampNeg = X.toNat := by unfold Int32.toNatClampNeg; rw [e]
  refine ⟨?_, e2⟩
  unfold xin
  rw [e2]
  have h3 : ¬ wi X < 0 := by rw [Int32.lt_iff_toInt_lt, e]; show ¬ X < 0; omega
  simp [h3]
  omega
theorem wcv_cat (K : wK) (v : wv) : (wcv K v).category = wcat v := by
  rcases v with X | x | x | x
  · rfl
  · rfl
  · cases x <;> rfl
  · rfl
theorem wfind_cl (K : wK) (L : wL) (i : Nat) : xfind (wcl K L) i = (wfind L i).map (wcv K) := by
  induction L with
  | nil => rfl
  | cons q L ih =>
    obtain ⟨j, v⟩ := q
    show (if j = i then some (wcv K v) else xfind (wcl K L) i) = (if j = i then some v else wfind L i).map (wcv K)
    split
    · rfl
    · exact ih
theorem wcl_sto1 (K : wK) (L : wL) (i : Nat) (v : wv) : wcl K (wsto1 L i v) = xsto1 (wcl K L) i (wcv K v) := by
  unfold wsto1 xsto1 wcl
  rw [List.map_cons, List.filter_map]
  congr 2
  apply List.filter_congr
  intro q _
  simp [wcv_cat]
theorem wcl_sto2 (K : wK) (L : wL) (i : Nat) (v : wv) : wcl K (wsto2 L i v) = xsto2 (wcl K L) i (wcv K v) := by
  unfold wsto2 xsto2 wcl
  rw [List.map_cons, List.filter_map]
  congr 2
  apply List.filter_congr
  intro q _
  simp [wcv_cat]
theorem ww_xw (K : wK) (st : List wv) : xw (st.map (wcv K)) = ww st := by
  unfold xw ww
  rw [List.map_map]
  congr 1
  apply List.map_congr_left
  intro v _
  exact wcv_cat K v
theorem wfs_congr {m m' : wm} {k i : Nat} (h1 : m'.1 k i = m.1 k i) (h2 : m'.2.1 k i = m.2.1 k i) : ∀ (fs : List wfk) (j : Nat), wfs m' k i j fs = wfs m k i j fs := by
  intro fs
  induction fs with
  | nil => intro j; rfl
  | cons f fs ih =>
    intro j
    show wfv m' k i j f :: wfs m' k i (j + 1) fs = wfv m k i j f :: wfs m k i (j + 1) fs
    rw [ih]
    unfold wfv
    rw [h1, h2]
theorem wcell_congr {K : wK} {m m' : wm} {k i : Nat} (h1 : m'.1 k i = m.1 k i) (h2 : m'.2.1 k i = m.2.1 k i) (h3 : m'.2.2 k i = m.2.2 k i) (s : ((Nat × List wfk) ⊕ (Nat × (Nat → Nat) × String × Nat × (Nat → Nat → Nat)))) : wcell K m' k i s = wcell K m k i s := by
  unfold wcell
  split
  · rw [wfs_congr h1 h2]
  · rw [h1, h2, h3]
theorem wV_at {K : wK} {n : Nat × Nat} {m : wm} {S : xS} (hV : wV K n m S) {k : Nat} {s : wsh} (hk : K.2.2.2 k = some s) {i : Nat} (hi : i < s.1) : xat S (K.2.2.1 k i) = some (wcell K m k i s.2) := by
  obtain ⟨h1, h2⟩ := hV.2.2.2.1 k s hk i hi
  unfold xat
  rw [if_pos h1, h2]
theorem wV_put {K : wK} {n : Nat × Nat} {m m' : wm} {S : xS} (hV : wV K n m S) {k : Nat} {s : wsh} (hk : K.2.2.2 k = some s) {i : Nat} (hi : i < s.1) {c : xC} (hc : c = wcell K m' k i s.2)
    (hm : ∀ k' i', ¬ (k' = k ∧ i' = i) → m'.1 k' i' = m.1 k' i' ∧ m'.2.1 k' i' = m.2.1 k' i' ∧ m'.2.2 k' i' = m.2.2 k' i') : wV K n m' (xput S (K.2.2.1 k i) c) := by
  obtain ⟨hG, e1, e2, hc0, hcap⟩ := hV
  have h0 := (hc0 k s hk i hi).2
  refine ⟨hG, e1, e2, fun k' s' hk' i' hi' => ⟨(hc0 k' s' hk' i' hi').1, ?_⟩, fun q hq => ?_⟩
  · show xget (xset S.2.2 (K.2.2.1 k i) c) (K.2.2.1 k' i') = _
    by_cases hq : K.2.2.1 k' i' = K.2.2.1 k i
    · obtain ⟨rfl, rfl⟩ := hG.1 k' s' i' k s i hk' hi' hk hi hq
      rw [hk] at hk'
      cases hk'
      rw [xget_set_self h0, hc]
    · rw [xget_set_ne hq, (hc0 k' s' hk' i' hi').2]
      obtain ⟨a1, a2, a3⟩ := hm k' i' (fun z => hq (by rw [z.1, z.2]))
      rw [wcell_congr a1 a2 a3]
  · show ∃ c', xget (xset S.2.2 (K.2.2.1 k i) c) q = some c'
    by_cases hq2 : q = K.2.2.1 k i
    · exact ⟨c, by rw [hq2]; exact xget_set_self h0⟩
    · rw [xget_set_ne hq2]; exact hcap q hq
theorem wuI_ne {m : wm} {k i j : Nat} {X : Int} (k' i' : Nat) (h : ¬ (k' = k ∧ i' = i)) : (wuI m k i j X).1 k' i' = m.1 k' i' ∧ (wuI m k i j X).2.1 k' i' = m.2.1 k' i' ∧ (wuI m k i j X).2.2 k' i' = m.2.2 k' i' := by
  refine ⟨?_, rfl, rfl⟩
  funext j'
  show (if k' = k ∧ i' = i ∧ j' = j then X else m.1 k' i' j') = _
  rw [if_neg (fun z => h ⟨z.1, z.2.1⟩)]
theorem wuL_ne {m : wm} {k i j : Nat} {x : Int64} (k' i' : Nat) (h : ¬ (k' = k ∧ i' = i)) : (wuL m k i j x).1 k' i' = m.1 k' i' ∧ (wuL m k i j x).2.1 k' i' = m.2.1 k' i' ∧ (wuL m k i j x).2.2 k' i' = m.2.2 k' i' := by
  refine ⟨rfl, ?_, rfl⟩
  funext j'
  show (if k' = k ∧ i' = i ∧ j' = j then x else m.2.1 k' i' j') = _
  rw [if_neg (fun z => h ⟨z.1, z.2.1⟩)]
theorem wuR_ne {m : wm} {k i j x : Nat} (k' i' : Nat) (h : ¬ (k' = k ∧ i' = i)) : (wuR m k i j x).1 k' i' = m.1 k' i' ∧ (wuR m k i j x).2.1 k' i' = m.2.1 k' i' ∧ (wuR m k i j x).2.2 k' i' = m.2.2 k' i' := by
  refine ⟨rfl, rfl, ?_⟩
  funext j'
  show (if k' = k ∧ i' = i ∧ j' = j then x else m.2.2 k' i' j') = _
  rw [if_neg (fun z => h ⟨z.1, z.2.1⟩)]
theorem wcp_ne {m : wm} {k0 i0 sp k i dp n : Nat} (k' i' : Nat) (h : ¬ (k' = k ∧ i' = i)) : (wcp m k0 i0 sp k i dp n).1 k' i' = m.1 k' i' ∧ (wcp m k0 i0 sp k i dp n).2.1 k' i' = m.2.1 k' i' ∧ (wcp m k0 i0 sp k i dp n).2.2 k' i' = m.2.2 k' i' := by
  refine ⟨?_, rfl, rfl⟩
  funext j'
  show (if k' = k ∧ i' = i ∧ dp ≤ j' ∧ j' < dp + n then m.1 k0 i0 (sp + (j' - dp)) else m.1 k' i' j') = _
  rw [if_neg (fun z => h ⟨z.1, z.2.1⟩)]
theorem wfs_set_ne {m m' : wm} {k i kf : Nat} (h1 : ∀ j, j ≠ kf → m'.1 k i j = m.1 k i j ∧ m'.2.1 k i j = m.2.1 k i j) : ∀ (fs : List wfk) (j : Nat), kf < j → wfs m' k i j fs = wfs m k i j fs := by
  intro fs
  induction fs with
  | nil => intro j _; rfl
  | cons f fs ih =>
    intro j hj
    show wfv m' k i j f :: wfs m' k i (j + 1) fs = wfv m k i j f :: wfs m k i (j + 1) fs
    rw [ih (j + 1) (by omega)]
    obtain ⟨a, b⟩ := h1 j (by omega)
    unfold wfv
    rw [a, b]
theorem wfs_set {K : wK} {m m' : wm} {k i kf : Nat} (h1 : ∀ j, j ≠ kf → m'.1 k i j = m.1 k i j ∧ m'.2.1 k i j = m.2.1 k i j) {f : wfk} : ∀ (fs : List wfk) (j d : Nat), fs[d]? = some f → kf = j + d → ((wfs m k i j fs).map (wcv K)).set d (wcv K (wfv m' k i kf f)) = (wfs m' k i j fs).map (wcv K) := by
  intro fs
  induction fs with
  | nil => intro j d h; cases h
  | cons g fs ih =>
    intro j d h hk
    cases d with
    | zero =>
      cases h
      show wcv K (wfv m' k i kf f) :: (wfs m k i (j + 1) fs).map (wcv K) = wcv K (wfv m' k i j f) :: (wfs m' k i (j + 1) fs).map (wcv K)
      rw [wfs_set_ne h1 fs (j + 1) (by omega), show kf = j by omega]
    | succ d =>
      show wcv K (wfv m k i j g) :: ((wfs m k i (j + 1) fs).map (wcv K)).set d _ = wcv K (wfv m' k i j g) :: (wfs m' k i (j + 1) fs).map (wcv K)
      rw [ih (j + 1) d h (by omega)]
      obtain ⟨a, b⟩ := h1 j (by omega)
      unfold wfv
      rw [a, b]
theorem wfs_get {m : wm} {k i : Nat} : ∀ (fs : List wfk) (j d : Nat) (f : wfk), fs[d]? = some f → (wfs m k i j fs)[d]? = some (wfv m k i (j + d) f) := by
  intro fs
  induction fs with
  | nil => intro j d f h; cases h
  | cons g fs ih =>
    intro j d f h
    cases d with
    | zero => cases h; rfl
    | succ d =>
      show (wfs m k i (j + 1) fs)[d]? = _
      rw [ih (j + 1) d f h, show j + 1 + d = j + (d + 1) by omega]
theorem wfs_len {m : wm} {k i : Nat} : ∀ (fs : List wfk) (j : Nat), (wfs m k i j fs).length = fs.length := by
  intro fs
  induction fs with
  | nil => intro j; rfl
  | cons g fs ih => intro j; show (wfs m k i (j + 1) fs).length + 1 = _; rw [ih]; rfl
