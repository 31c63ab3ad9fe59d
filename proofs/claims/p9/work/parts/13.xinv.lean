def cL (bs : xB) (L : xL) : xL := L.map fun q => (q.1, cv bs q.2)
theorem xfind_mem {L : xL} {i : Nat} {v : Value} (h : xfind L i = some v) : (i, v) ∈ L := by
  induction L with
  | nil => cases h
  | cons q L ih =>
    obtain ⟨j, w⟩ := q
    unfold xfind at h
    split at h
    · rename_i hj
      cases h
      subst hj
      exact List.mem_cons_self
    · exact List.mem_cons_of_mem _ (ih h)
theorem xl_at {ls : Array Slot} {nL : Nat} {bs : xB} {L : xL} {i : Nat} {v : Value} (hl : lv_has ls nL (cL bs L)) (h : xfind L i = some v) : ls[i]? = some (.val (cv bs v)) :=
  hl.2.2 (i, cv bs v) (List.mem_map.mpr ⟨(i, v), xfind_mem h, rfl⟩)
theorem cL_sto1 (bs : xB) (L : xL) (i : Nat) (v : Value) : (i, cv bs v) :: (cL bs L).filter (fun q => !(q.1 == i) && !(q.1 + 1 == i && q.2.category == 2)) = cL bs (xsto1 L i v) := by
  unfold xsto1 cL
  rw [List.map_cons, List.filter_map]
  congr 2
  apply List.filter_congr
  intro q _
  simp [cv_cat]
theorem cL_sto2 (bs : xB) (L : xL) (i : Nat) (v : Value) : (i, cv bs v) :: (cL bs L).filter (fun q => !(q.1 == i) && (!(q.1 == i + 1) && !(q.1 + 1 == i && q.2.category == 2))) = cL bs (xsto2 L i v) := by
  unfold xsto2 cL
  rw [List.map_cons, List.filter_map]
  congr 2
  apply List.filter_congr
  intro q _
  simp [cv_cat]
theorem cv_sum (bs : xB) (st : List Value) : ((st.map (cv bs)).map fun v => v.category).sum = xw st := by
  unfold xw
  rw [List.map_map]
  congr 1
  apply List.map_congr_left
  intro v _
  exact cv_cat bs v
theorem xtg_spec {pc t : Nat} {off : Int} (h : xtg pc off = some t) : (pc : Int) + off = (t : Int) := by
  unfold xtg at h
  split at h
  · rename_i h0
    cases h
    omega
  · cases h
theorem xii_inv {st t : List Value} {f : Int32 → Int32 → Option Int32} (h : xii st f = some t) : ∃ x y z r, st = .int y :: .int x :: r ∧ f x y = some z ∧ t = .int z :: r := by
  unfold xii at h
  split at h
  · rename_i y x r
    cases hz : f x y with
    | none => rw [hz] at h; cases h
    | some z => rw [hz] at h; cases h; exact ⟨x, y, z, r, rfl, hz, rfl⟩
  · cases h
theorem xll_inv {st t : List Value} {f : Int64 → Int64 → Value} (h : xll st f = some t) : ∃ x y r, st = .long y :: .long x :: r ∧ t = f x y :: r := by
  unfold xll at h
  split at h
  · rename_i y x r
    cases h
    exact ⟨x, y, r, rfl, rfl⟩
  · cases h
theorem xli_inv {st t : List Value} {f : Int64 → Int32 → Value} (h : xli st f = some t) : ∃ x y r, st = .int y :: .long x :: r ∧ t = f x y :: r := by
  unfold xli at h
  split at h
  · rename_i y x r
    cases h
    exact ⟨x, y, r, rfl, rfl⟩
  · cases h
theorem xi1_inv {st t : List Value} {f : Int32 → Value} (h : xi1 st f = some t) : ∃ x r, st = .int x :: r ∧ t = f x :: r := by
  unfold xi1 at h
  split at h
  · rename_i x r
    cases h
    exact ⟨x, r, rfl, rfl⟩
  · cases h
theorem xl1_inv {st t : List Value} {f : Int64 → Value} (h : xl1 st f = some t) : ∃ x r, st = .long x :: r ∧ t = f x :: r := by
  unfold xl1 at h
  split at h
  · rename_i x r
    cases h
    exact ⟨x, r, rfl, rfl⟩
  · cases h
theorem xldI_inv {L : xL} {i : Nat} {v : Value} (h : xldI L i = some v) : ∃ x, v = .int x ∧ xfind L i = some (.int x) := by
  unfold xldI at h
  split at h
  · rename_i x hx
    cases h
    exact ⟨x, rfl, hx⟩
  · cases h
theorem xldL_inv {L : xL} {i : Nat} {v : Value} (h : xldL L i = some v) : ∃ x, v = .long x ∧ xfind L i = some (.long x) := by
  unfold xldL at h
  split at h
  · rename_i x hx
    cases h
    exact ⟨x, rfl, hx⟩
  · cases h
theorem xldA_inv {L : xL} {i : Nat} {v : Value} (h : xldA L i = some v) : (∃ x, v = .ref x ∧ xfind L i = some (.ref x)) ∨ (v = .null ∧ xfind L i = some .null) ∨ (∃ x, v = .retAddr x ∧ xfind L i = some (.retAddr x)) := by
  unfold xldA at h
  split at h
  · rename_i x hx
    cases h
    exact Or.inl ⟨x, rfl, hx⟩
  · rename_i hx
    cases h
    exact Or.inr (Or.inl ⟨rfl, hx⟩)
  · rename_i x hx
    cases h
    exact Or.inr (Or.inr ⟨x, rfl, hx⟩)
  · cases h
theorem xstI_inv {L : xL} {nL i : Nat} {st : List Value} {q : xL × List Value} (h : xstI L nL i st = some q) : ∃ x, st = .int x :: q.2 ∧ i < nL ∧ q.1 = xsto1 L i (.int x) := by
  unfold xstI at h
  split at h
  · rename_i x r
    split at h
    · rename_i hi
      cases h
      exact ⟨x, rfl, hi, rfl⟩
    · cases h
  · cases h
theorem xstL_inv {L : xL} {nL i : Nat} {st : List Value} {q : xL × List Value} (h : xstL L nL i st = some q) : ∃ x, st = .long x :: q.2 ∧ i + 1 < nL ∧ q.1 = xsto2 L i (.long x) := by
  unfold xstL at h
  split at h
  · rename_i x r
    split at h
    · rename_i hi
      cases h
      exact ⟨x, rfl, hi, rfl⟩
    · cases h
  · cases h
theorem xstA_inv {L : xL} {nL i : Nat} {st : List Value} {q : xL × List Value} (h : xstA L nL i st = some q) : (∃ x, st = .ref x :: q.2 ∧ i < nL ∧ q.1 = xsto1 L i (.ref x)) ∨ (st = .null :: q.2 ∧ i < nL ∧ q.1 = xsto1 L i .null) := by
  unfold xstA at h
  split at h
  · rename_i x r
    split at h
    · rename_i hi
      cases h
      exact Or.inl ⟨x, rfl, hi, rfl⟩
    · cases h
  · rename_i r
    split at h
    · rename_i hi
      cases h
      exact Or.inr ⟨rfl, hi, rfl⟩
    · cases h
  · cases h
theorem xif_inv {c : ClassFile.Cond} {pc : Nat} {off : Int} {st : List Value} {q : Nat × List Value} (h : xif c pc off st = some q) : ∃ (x : Int32) (t : Nat), st = .int x :: q.2 ∧ (pc : Int) + off = (t : Int) ∧ q.1 = bif xcmp c x 0 then t else pc + 3 := by
  unfold xif at h
  split at h
  · rename_i x r
    cases ht : xtg pc off with
    | none => rw [ht] at h; cases h
    | some t => rw [ht] at h; cases h; exact ⟨x, t, rfl, xtg_spec ht, rfl⟩
  · cases h
theorem xicmp_inv {c : ClassFile.Cond} {pc : Nat} {off : Int} {st : List Value} {q : Nat × List Value} (h : xicmp c pc off st = some q) : ∃ (x y : Int32) (t : Nat), st = .int y :: .int x :: q.2 ∧ (pc : Int) + off = (t : Int) ∧ q.1 = bif xcmp c x y then t else pc + 3 := by
  unfold xicmp at h
  split at h
  · rename_i y x r
    cases ht : xtg pc off with
    | none => rw [ht] at h; cases h
    | some t => rw [ht] at h; cases h; exact ⟨x, y, t, rfl, xtg_spec ht, rfl⟩
  · cases h
theorem xnul_inv {b : Bool} {pc : Nat} {off : Int} {st : List Value} {q : Nat × List Value} (h : xnul b pc off st = some q) : ∃ t : Nat, (pc : Int) + off = (t : Int) ∧ ((st = .null :: q.2 ∧ q.1 = bif b then t else pc + 3) ∨ (∃ x, st = .ref x :: q.2 ∧ q.1 = bif b then pc + 3 else t)) := by
  unfold xnul at h
  split at h
  · rename_i r
    cases ht : xtg pc off with
    | none => rw [ht] at h; cases h
    | some t => rw [ht] at h; cases h; exact ⟨t, xtg_spec ht, Or.inl ⟨rfl, rfl⟩⟩
  · rename_i x r
    cases ht : xtg pc off with
    | none => rw [ht] at h; cases h
    | some t => rw [ht] at h; cases h; exact ⟨t, xtg_spec ht, Or.inr ⟨x, rfl, rfl⟩⟩
  · cases h
theorem xtab_inv {d lo hi : Int} {offs : Array Int} {pc : Nat} {st : List Value} {q : Nat × List Value} (h : xtab d lo hi offs pc st = some q) : ∃ x, st = .int x :: q.2 ∧ (((x.toInt < lo ∨ hi < x.toInt) ∧ (pc : Int) + d = (q.1 : Int)) ∨ (¬ x.toInt < lo ∧ ¬ hi < x.toInt ∧ ∃ off, offs[(x.toInt - lo).toNat]? = some off ∧ (pc : Int) + off = (q.1 : Int))) := by
  unfold xtab at h
  split at h
  · rename_i x r
    split at h
    · rename_i hx
      cases ht : xtg pc d with
      | none => rw [ht] at h; cases h
      | some t => rw [ht] at h; cases h; exact ⟨x, rfl, Or.inl ⟨hx, xtg_spec ht⟩⟩
    · rename_i hx
      split at h
      · rename_i off ho
        cases ht : xtg pc off with
        | none => rw [ht] at h; cases h
        | some t => rw [ht] at h; cases h; exact ⟨x, rfl, Or.inr ⟨fun z => hx (Or.inl z), fun z => hx (Or.inr z), off, ho, xtg_spec ht⟩⟩
      · cases h
  · cases h
theorem xlook_inv {d : Int} {ps : Array (Int × Int)} {pc : Nat} {st : List Value} {q : Nat × List Value} (h : xlook d ps pc st = some q) : ∃ x, st = .int x :: q.2 ∧ (ps.toList.zip (ps.toList.drop 1)).all (fun (a, next) => a.1 < next.1) = true ∧ (pc : Int) + Op.lookupswitch.offset ps.toList d x.toInt = (q.1 : Int) := by
  unfold xlook at h
  split at h
  · rename_i x r
    split at h
    · rename_i hx
      cases ht : xtg pc (Op.lookupswitch.offset ps.toList d x.toInt) with
      | none => rw [ht] at h; cases h
      | some t => rw [ht] at h; cases h; exact ⟨x, rfl, hx, xtg_spec ht⟩
    · cases h
  · cases h
theorem xzald_inv {S : xS} {st t : List Value} (h : xzald S st = some t) : ∃ i a r n f, st = .int i :: .ref a :: r ∧ xat S a = some (.inl (.boolean, n, .inl f)) ∧ xin i n = true ∧ t = .int (f i.toNatClampNeg) :: r := by
  unfold xzald at h
  split at h
  · rename_i i a r
    split at h
    · rename_i n f hx
      split at h
      · rename_i hi
        cases h
        exact ⟨i, a, r, n, f, rfl, hx, hi, rfl⟩
      · cases h
    · cases h
  · cases h
theorem xlald_inv {S : xS} {st t : List Value} (h : xlald S st = some t) : ∃ i a r n f, st = .int i :: .ref a :: r ∧ xat S a = some (.inl (.long, n, .inr (.inl f))) ∧ xin i n = true ∧ t = .long (f i.toNatClampNeg) :: r := by
  unfold xlald at h
  split at h
  · rename_i i a r
    split at h
    · rename_i n f hx
      split at h
      · rename_i hi
        cases h
        exact ⟨i, a, r, n, f, rfl, hx, hi, rfl⟩
      · cases h
    · cases h
  · cases h
theorem xiald_inv {sc : xSc} {S : xS} {st t : List Value} (h : xiald sc S st = some t) : (∃ i a r n f, st = .int i :: .ref a :: r ∧ xat S a = some (.inl (.int, n, .inl f)) ∧ xin i n = true ∧ t = .int (f i.toNatClampNeg) :: r) ∨ (∃ i a r, st = .int i :: .retAddr a :: r ∧ xin i (sc.1 - 1) = true ∧ t = .int (sc.2 i.toNatClampNeg) :: r) := by
  unfold xiald at h
  split at h
  · rename_i i a r
    split at h
    · rename_i hi
      cases h
      exact Or.inr ⟨i, a, r, rfl, hi, rfl⟩
    · cases h
  · rename_i i a r
    split at h
    · rename_i n f hx
      split at h
      · rename_i hi
        cases h
        exact Or.inl ⟨i, a, r, n, f, rfl, hx, hi, rfl⟩
      · cases h
    · cases h
  · cases h
theorem xaald_inv {S : xS} {st t : List Value} (h : xaald S st = some t) : ∃ i a r C n f, st = .int i :: .ref a :: r ∧ xat S a = some (.inl (.object C, n, .inr (.inr (.inr (.inr f))))) ∧ xin i n = true ∧ t = va_rf (f i.toNatClampNeg) :: r := by
  unfold xaald at h
  split at h
  · rename_i i a r
    split at h
    · rename_i C n f hx
      split at h
      · rename_i hi
        cases h
        exact ⟨i, a, r, C, n, f, rfl, hx, hi, rfl⟩
      · cases h
    · cases h
  · cases h
theorem xlen_inv {sc : xSc} {S : xS} {st t : List Value} (h : xlen sc S st = some t) : (∃ a r ty x, st = .ref a :: r ∧ xat S a = some (.inl (ty, x)) ∧ t = .int (Int32.ofNat x.1) :: r) ∨ (∃ a r, st = .retAddr a :: r ∧ sc.1 ≠ 0 ∧ t = .int (Int32.ofNat (sc.1 - 1)) :: r) := by
  unfold xlen at h
  split at h
  · rename_i a r
    split at h
    · cases h
    · rename_i h0
      cases h
      exact Or.inr ⟨a, r, rfl, h0, rfl⟩
  · rename_i a r
    split at h
    · rename_i ty x hx
      cases h
      exact Or.inl ⟨a, r, ty, x, rfl, hx, rfl⟩
    · cases h
  · cases h
theorem xiast_inv {S : xS} {st : List Value} {q : List Value × xS} (h : xiast S st = some q) : ∃ x i a n f, st = .int x :: .int i :: .ref a :: q.1 ∧ xat S a = some (.inl (.int, n, .inl f)) ∧ xin i n = true ∧ q.2 = xput S a (.inl (.int, n, .inl (upd f i.toNatClampNeg x))) := by
  unfold xiast at h
  split at h
  · rename_i x i a r
    split at h
    · rename_i n f hx
      split at h
      · rename_i hi
        cases h
        exact ⟨x, i, a, n, f, rfl, hx, hi, rfl⟩
      · cases h
    · cases h
  · cases h
theorem xzast_inv {S : xS} {st : List Value} {q : List Value × xS} (h : xzast S st = some q) : ∃ x i a n f, st = .int x :: .int i :: .ref a :: q.1 ∧ xat S a = some (.inl (.boolean, n, .inl f)) ∧ xin i n = true ∧ q.2 = xput S a (.inl (.boolean, n, .inl (upd f i.toNatClampNeg (vp_nar .boolean x)))) := by
  unfold xzast at h
  split at h
  · rename_i x i a r
    split at h
    · rename_i n f hx
      split at h
      · rename_i hi
        cases h
        exact ⟨x, i, a, n, f, rfl, hx, hi, rfl⟩
      · cases h
    · cases h
  · cases h
theorem xlast_inv {S : xS} {st : List Value} {q : List Value × xS} (h : xlast S st = some q) : ∃ x i a n f, st = .long x :: .int i :: .ref a :: q.1 ∧ xat S a = some (.inl (.long, n, .inr (.inl f))) ∧ xin i n = true ∧ q.2 = xput S a (.inl (.long, n, .inr (.inl (vp_updL f i.toNatClampNeg x)))) := by
  unfold xlast at h
  split at h
  · rename_i x i a r
    split at h
    · rename_i n f hx
      split at h
      · rename_i hi
        cases h
        exact ⟨x, i, a, n, f, rfl, hx, hi, rfl⟩
      · cases h
    · cases h
  · cases h
theorem xaast_inv {cl : List vw_C} {S : xS} {st : List Value} {q : List Value × xS} (h : xaast cl S st = some q) : ∃ v i a r n f ci vs, st = .ref v :: .int i :: .ref a :: q.1 ∧ xat S a = some (.inl (.object r.1, n, .inr (.inr (.inr (.inr f))))) ∧ xat S v = some (.inr (some (ci, vs))) ∧ cl[ci]? = some r ∧ xin i n = true ∧ q.2 = xput S a (.inl (.object r.1, n, .inr (.inr (.inr (.inr (va_up f i.toNatClampNeg (some v))))))) := by
  unfold xaast at h
  split at h
  · rename_i v i a r
    split at h
    · rename_i C n f ci vs hx hv
      split at h
      · rename_i hi
        rw [Bool.and_eq_true, decide_eq_true_eq] at hi
        cases hc : cl[ci]? with
        | none => rw [hc] at hi; exact absurd hi.2 (by simp)
        | some rr =>
          rw [hc] at hi
          have hC : rr.1 = C := by simpa using hi.2
          subst hC
          cases h
          exact ⟨v, i, a, rr, n, f, ci, vs, rfl, hx, hv, hc, hi.1, rfl⟩
      · cases h
    · cases h
  · cases h
theorem xgetf_inv {S : xS} {ci k : Nat} {st t : List Value} (h : xgetf S ci k st = some t) : ∃ a r fs v, st = .ref a :: r ∧ xat S a = some (.inr (some (ci, fs))) ∧ fs[k]? = some v ∧ t = v :: r := by
  unfold xgetf at h
  split at h
  · rename_i a r
    split at h
    · rename_i cj fs hx
      split at h
      · rename_i he
        subst he
        cases hv : fs[k]? with
        | none => rw [hv] at h; cases h
        | some v => rw [hv] at h; cases h; exact ⟨a, r, fs, v, rfl, hx, hv, rfl⟩
      · cases h
    · cases h
  · cases h
theorem xputf_inv {S : xS} {ci k : Nat} {ty : FieldType} {st : List Value} {q : List Value × xS} (h : xputf S ci k ty st = some q) : ∃ v a fs, st = v :: .ref a :: q.1 ∧ xat S a = some (.inr (some (ci, fs))) ∧ k < fs.length ∧ narrow ty v = v ∧ fits ty v = true ∧ q.2 = xput S a (.inr (some (ci, fs.set k v))) := by
  unfold xputf at h
  split at h
  · rename_i v a r
    split at h
    · rename_i cj fs hx
      split at h
      · rename_i he
        obtain ⟨e1, e2, e3⟩ := he
        subst e1
        cases h
        exact ⟨v, a, fs, rfl, hx, e2, (xfit_ok e3).1, (xfit_ok e3).2, rfl⟩
      · cases h
    · cases h
  · cases h
theorem xcpy_inv {S : xS} {st : List Value} {q : List Value × xS} (h : xcpy S st = some q) : ∃ n dp a sp a0 n0 n1 f g, st = .int n :: .int dp :: .ref a :: .int sp :: .ref a0 :: q.1 ∧ xat S a0 = some (.inl (.int, n0, .inl f)) ∧ xat S a = some (.inl (.int, n1, .inl g)) ∧ ¬ sp < 0 ∧ ¬ dp < 0 ∧ ¬ n < 0 ∧ sp.toNatClampNeg + n.toNatClampNeg ≤ n0 ∧ dp.toNatClampNeg + n.toNatClampNeg ≤ n1 ∧ q.2 = xput S a (.inl (.int, n1, .inl (va_cpy f g sp.toNatClampNeg dp.toNatClampNeg n.toNatClampNeg))) := by
  unfold xcpy at h
  split at h
  · rename_i n dp a sp a0 r
    split at h
    · rename_i n0 f n1 g hx hy
      split at h
      · cases h
      · rename_i hs
        split at h
        · rename_i hz
          cases h
          exact ⟨n, dp, a, sp, a0, n0, n1, f, g, rfl, hx, hy, fun z => hs (Or.inl z), fun z => hs (Or.inr (Or.inl z)), fun z => hs (Or.inr (Or.inr z)), hz.1, hz.2, rfl⟩
        · cases h
    · cases h
  · cases h
