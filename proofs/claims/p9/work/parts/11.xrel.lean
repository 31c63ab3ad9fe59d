/-! The small machine's heap as the real one's: cell k lies at bs.1 + k. -/
/-- where the cells begin; where the script lies -/
abbrev xB : Type := Nat × Nat
def cv (bs : xB) : Value → Value
  | .ref k => .ref (bs.1 + k)
  | .retAddr _ => .ref bs.2
  | v => v
theorem cv_cat (bs : xB) (v : Value) : (cv bs v).category = v.category := by cases v <;> rfl
def ca (bs : xB) (a : vp_A) : vp_A := (a.1, match a.2 with
  | .inr (.inr (.inr (.inr f))) => .inr (.inr (.inr (.inr fun i => (f i).map fun k => bs.1 + k)))
  | g => g)
theorem cv_rf (bs : xB) (r : Option Nat) : cv bs (va_rf r) = va_rf (r.map fun k => bs.1 + k) := by cases r <;> rfl
theorem cv_narrow {bs : xB} {ty : FieldType} {v : Value} (h : narrow ty v = v) : narrow ty (cv bs v) = cv bs v := by
  cases v <;> cases ty <;> first | rfl | exact h
theorem cv_fits {bs : xB} {ty : FieldType} {v : Value} (h : fits ty v = true) : fits ty (cv bs v) = true := by
  cases v <;> cases ty <;> first | rfl | exact h | cases h
def xcat (D : va_G) (cl : List vw_C) (cT : FieldType → ClassId) (s : State) (bs : xB) (a : Nat) (c : xC) (H : Heap) : Prop := match c with
  | .inl q => H[a]? = some (vp_cell (cT q.1) (ca bs q.2)) ∧ ArrOfT s (cT q.1) q.1 ∧ va_RA s (cT q.1) q.1
  | .inr (some o) => va_at D cl (a, .inr (o.1, o.2.map (cv bs))) H
  | .inr none => True
theorem xcat.kept {D : va_G} {cl : List vw_C} {cT : FieldType → ClassId} {s : State} {bs : xB} {a : Nat} {c : xC} {H H1 : Heap} (h : xcat D cl cT s bs a c H) (hq : H1[a]? = H[a]?) : xcat D cl cT s bs a c H1 := by
  rcases c with q | (_ | o)
  · exact ⟨hq.trans h.1, h.2⟩
  · trivial
  · exact va_at.kept (q := (a, .inr (o.1, o.2.map (cv bs)))) h hq
theorem xcat.moved {D : va_G} {cl : List vw_C} {cT : FieldType → ClassId} {s U : State} (hvm : s.vm.Alike U.vm) {bs : xB} {a : Nat} {c : xC} {H : Heap} (h : xcat D cl cT s bs a c H) : xcat D cl cT U bs a c H := by
  rcases c with q | (_ | o)
  · exact ⟨h.1, arrOfT_moved hvm h.2.1, h.2.2.moved hvm⟩
  · trivial
  · exact h
/-- the heap H holds the small machine's heap S -/
def xR (D : va_G) (cl : List vw_C) (cT : FieldType → ClassId) (s : State) (bs : xB) (S : xS) (H : Heap) : Prop :=
  H.size = bs.1 + S.1 ∧ va_K D cl [] s ∧ (∀ (ty : FieldType) (cA : ClassId), s.vm.findClass ("[" ++ ty.toString) = some cA → cA = cT ty) ∧ ∀ (k : Nat) (c : xC), xat S k = some c → xcat D cl cT s bs (bs.1 + k) c H
theorem xR.moved {D : va_G} {cl : List vw_C} {cT : FieldType → ClassId} {s U : State} (hvm : s.vm.Alike U.vm) {bs : xB} {S : xS} {H : Heap} (h : xR D cl cT s bs S H) : xR D cl cT U bs S H :=
  ⟨h.1, va_K.moved hvm h.2.1, fun ty cA q => h.2.2.1 ty cA (by rw [hvm.findClass] at q; exact q), fun k c hk => (h.2.2.2 k c hk).moved hvm⟩
theorem xat_lt {S : xS} {k : Nat} {c : xC} (h : xat S k = some c) : k < S.1 ∧ xget S.2.2 k = some c := by
  unfold xat at h
  split at h
  · exact ⟨by assumption, h⟩
  · cases h
theorem xat_put_self {S : xS} {k : Nat} {c0 c : xC} (h : xat S k = some c0) : xat (xput S k c) k = some c := by
  obtain ⟨h1, h2⟩ := xat_lt h
  unfold xat xput
  rw [if_pos h1]
  exact xget_set_self h2
theorem xat_put_ne {S : xS} {k j : Nat} {c : xC} (h : j ≠ k) : xat (xput S k c) j = xat S j := by
  unfold xat xput
  dsimp only
  rw [xget_set_ne h]
theorem xR.set {D : va_G} {cl : List vw_C} {cT : FieldType → ClassId} {s : State} {bs : xB} {k : Nat} {S : xS} {H H1 : Heap} {c0 c : xC} (h : xR D cl cT s bs S H) (hk : xat S k = some c0) (z : H1.size = H.size) (oq : ∀ q : Nat, q ≠ bs.1 + k → H1[q]? = H[q]?) (hc : xcat D cl cT s bs (bs.1 + k) c H1) : xR D cl cT s bs (xput S k c) H1 := by
  refine ⟨z.trans h.1, h.2.1, h.2.2.1, fun j cj hj => ?_⟩
  by_cases e : j = k
  · subst e
    rw [xat_put_self hk] at hj
    cases hj
    exact hc
  · rw [xat_put_ne e] at hj
    exact (h.2.2.2 j cj hj).kept (oq _ (by omega))
theorem xnew_spec {S S' : xS} {c : xC} {w : Nat} (h : xnew S c w = some S') : S' = (S.1 + 1, S.2.1 + w, xset S.2.2 S.1 c) ∧ ∃ c0, xget S.2.2 S.1 = some c0 := by
  unfold xnew at h
  split at h
  · rename_i c0 hc0
    cases h
    exact ⟨rfl, c0, hc0⟩
  · cases h
theorem xR.new {D : va_G} {cl : List vw_C} {cT : FieldType → ClassId} {s : State} {bs : xB} {w : Nat} {S S' : xS} {H H1 : Heap} {c : xC} (h : xR D cl cT s bs S H) (hn : xnew S c w = some S') (z : H1.size = H.size + 1) (oq : ∀ q : Nat, q < H.size → H1[q]? = H[q]?) (hc : xcat D cl cT s bs (bs.1 + S.1) c H1) : xR D cl cT s bs S' H1 := by
  obtain ⟨rfl, c0, hc0⟩ := xnew_spec hn
  refine ⟨by rw [z, h.1]; rfl, h.2.1, h.2.2.1, fun j cj hj => ?_⟩
  obtain ⟨h1, h2⟩ := xat_lt hj
  dsimp only at h1 h2
  by_cases e : j = S.1
  · subst e
    rw [xget_set_self hc0] at h2
    cases h2
    exact hc
  · rw [xget_set_ne e] at h2
    have hlt : j < S.1 := by omega
    exact (h.2.2.2 j cj (by unfold xat; rw [if_pos hlt]; exact h2)).kept (oq _ (by rw [h.1]; omega))
theorem xin_in {i : Int32} {n : Nat} (h : xin i n = true) : vp_in i n := by
  unfold xin at h
  simp only [Bool.and_eq_true, Bool.not_eq_true', decide_eq_false_iff_not, decide_eq_true_eq] at h
  rintro (q | q)
  · exact h.1 q
  · omega
theorem xP1 {D : va_G} {cl : List vw_C} {q : Nat × va_E} {H : Heap} (h : va_at D cl q H) : va_P D cl [q] H := by
  intro k x hx
  have hz : k < 1 := (List.getElem?_eq_some_iff.mp hx).1
  rw [show k = 0 by omega] at hx
  cases hx
  exact h
theorem xK1 {D : va_G} {cl : List vw_C} {s : State} {cA : ClassId} {ty : FieldType} (h : va_K D cl [] s) (h1 : ArrOfT s cA ty) (h2 : va_RA s cA ty) : va_K D cl [(cA, ty)] s := by
  refine ⟨h.1, fun k x hx => ?_⟩
  have hz : k < 1 := (List.getElem?_eq_some_iff.mp hx).1
  rw [show k = 0 by omega] at hx
  cases hx
  exact ⟨h1, h2⟩
theorem xarr_get {α : Type} {cA : ClassId} {n k : Nat} {mk : α → Value} {f : Nat → α} {g : Nat → α} {x : α} (hg : ∀ j, g j = if j = k then x else f j) : (fun j => mk (g j)) = updV (fun j => mk (f j)) k (mk x) := by
  funext j
  by_cases hj : j = k
  · subst hj
    simp [updV, hg]
  · simp [updV, hg, hj]
section XW
variable {p : Program} {l : Launch} {e : Env} {R : Room} {s : State} {m : MethodId} {args : Array Value} {below : List Frame} {meth : Method} {c : Code} {H : Heap} {locs : List Loc} {cells slots : Nat} {Q : State → Prop}
variable {cc : ByteArray} {pc : Nat} {ls : Array Slot} {rest : List Value} {D : va_G} {cl : List vw_C} {cT : FieldType → ClassId} {bs : xB} {S : xS} {H0 : Heap}
theorem xw_iald (hexec : p.tables.exec = Jvm.exec) (hb : c.code = cc) (hR : xR D cl cT s bs S H) {k n : Nat} {f : Nat → Int32} (hk : xat S k = some (.inl (.int, n, .inl f))) {i : Int32} (hin : xin i n = true) (hdg : decode cc pc = .ok (.iaload, 1))
    (kk : W p l e R s m args below meth c H locs cells slots Q (F0 m (pc + 1) ls (.int (f i.toNatClampNeg) :: rest))) : W p l e R s m args below meth c H locs cells slots Q (F0 m pc ls (.int i :: .ref (bs.1 + k) :: rest)) := by
  obtain ⟨h1, h2, h3⟩ := hR.2.2.2 k _ hk
  exact va_iald (cA := cT .int) (n := n) (f := f) hexec hb (xK1 hR.2.1 h2 h3) (xP1 (q := (bs.1 + k, .inl (cT .int, n, .inl f))) h1) 0 0 rfl rfl (xin_in hin) hdg kk
theorem xw_zald (hexec : p.tables.exec = Jvm.exec) (hb : c.code = cc) (hR : xR D cl cT s bs S H) {k n : Nat} {f : Nat → Int32} (hk : xat S k = some (.inl (.boolean, n, .inl f))) {i : Int32} (hin : xin i n = true) (hdg : decode cc pc = .ok (.baload, 1))
    (kk : W p l e R s m args below meth c H locs cells slots Q (F0 m (pc + 1) ls (.int (f i.toNatClampNeg) :: rest))) : W p l e R s m args below meth c H locs cells slots Q (F0 m pc ls (.int i :: .ref (bs.1 + k) :: rest)) := by
  obtain ⟨h1, h2, h3⟩ := hR.2.2.2 k _ hk
  exact va_zald (cA := cT .boolean) (n := n) (f := f) hexec hb (xK1 hR.2.1 h2 h3) (xP1 (q := (bs.1 + k, .inl (cT .boolean, n, .inl f))) h1) 0 0 rfl rfl (xin_in hin) hdg kk
theorem xw_lald (hexec : p.tables.exec = Jvm.exec) (hb : c.code = cc) (hR : xR D cl cT s bs S H) {k n : Nat} {f : Nat → Int64} (hk : xat S k = some (.inl (.long, n, .inr (.inl f)))) {i : Int32} (hin : xin i n = true) (hdg : decode cc pc = .ok (.laload, 1))
    (kk : W p l e R s m args below meth c H locs cells slots Q (F0 m (pc + 1) ls (.long (f i.toNatClampNeg) :: rest))) : W p l e R s m args below meth c H locs cells slots Q (F0 m pc ls (.int i :: .ref (bs.1 + k) :: rest)) := by
  obtain ⟨h1, h2, h3⟩ := hR.2.2.2 k _ hk
  exact va_lald (cA := cT .long) (n := n) (f := f) hexec hb (xK1 hR.2.1 h2 h3) (xP1 (q := (bs.1 + k, .inl (cT .long, n, .inr (.inl f)))) h1) 0 0 rfl rfl (xin_in hin) hdg kk
theorem xw_aald (hexec : p.tables.exec = Jvm.exec) (hb : c.code = cc) (hR : xR D cl cT s bs S H) {k n : Nat} {C : String} {f : Nat → Option Nat} (hk : xat S k = some (.inl (.object C, n, .inr (.inr (.inr (.inr f)))))) {i : Int32} (hin : xin i n = true) (hdg : decode cc pc = .ok (.aaload, 1))
    (kk : W p l e R s m args below meth c H locs cells slots Q (F0 m (pc + 1) ls (cv bs (va_rf (f i.toNatClampNeg)) :: rest))) : W p l e R s m args below meth c H locs cells slots Q (F0 m pc ls (.int i :: .ref (bs.1 + k) :: rest)) := by
  obtain ⟨h1, h2, h3⟩ := hR.2.2.2 k _ hk
  refine va_aldq (cA := cT (.object C)) (C := C) (n := n) (f := fun i => (f i).map fun k => bs.1 + k) hexec hb (xK1 hR.2.1 h2 h3) (xP1 (q := (bs.1 + k, .inl (cT (.object C), n, .inr (.inr (.inr (.inr fun i => (f i).map fun k => bs.1 + k)))))) h1) 0 0 rfl rfl (xin_in hin) hdg ?_
  rw [cv_rf] at kk
  exact kk
theorem xw_alen (hexec : p.tables.exec = Jvm.exec) (hb : c.code = cc) (hR : xR D cl cT s bs S H) {k : Nat} {ty : FieldType} {x : vp_A} (hk : xat S k = some (.inl (ty, x))) (hdg : decode cc pc = .ok (.arraylength, 1))
    (kk : W p l e R s m args below meth c H locs cells slots Q (F0 m (pc + 1) ls (.int (Int32.ofNat x.1) :: rest))) : W p l e R s m args below meth c H locs cells slots Q (F0 m pc ls (.ref (bs.1 + k) :: rest)) := by
  obtain ⟨h1, h2, h3⟩ := hR.2.2.2 k _ hk
  exact va_alen (cA := cT ty) (x := ca bs x) (ty := ty) hexec hb (xK1 hR.2.1 h2 h3) (xP1 (q := (bs.1 + k, .inl (cT ty, ca bs x))) h1) 0 0 rfl rfl rfl hdg kk
theorem xw_iast (hexec : p.tables.exec = Jvm.exec) (hb : c.code = cc) (hR : xR D cl cT s bs S H) (hS : va_S (fun q => bs.1 ≤ q) H0 H locs) {k n : Nat} {f : Nat → Int32} (hk : xat S k = some (.inl (.int, n, .inl f))) {i x : Int32} (hin : xin i n = true) (hdg : decode cc pc = .ok (.iastore, 1))
    (kk : ∀ (H1 : Heap) (locs1 : List Loc), xR D cl cT s bs (xput S k (.inl (.int, n, .inl (upd f i.toNatClampNeg x)))) H1 → va_S (fun q => bs.1 ≤ q) H0 H1 locs1 → W p l e R s m args below meth c H1 locs1 cells slots Q (F0 m (pc + 1) ls rest)) : W p l e R s m args below meth c H locs cells slots Q (F0 m pc ls (.int x :: .int i :: .ref (bs.1 + k) :: rest)) := by
  obtain ⟨h1, h2, h3⟩ := hR.2.2.2 k _ hk
  refine W.iast hexec hb h1 (h2 n (fun j => .int (f j))) (fun q => by cases q) (by show ¬ (i < 0 ∨ (arrV _ _ _).slots.size ≤ _); rw [arrV_size]; exact xin_in hin) rfl rfl hdg fun H1 e z oq => ?_
  refine kk H1 _ (hR.set hk z oq ⟨?_, h2, h3⟩) (hS.put z oq (Nat.le_add_right _ _))
  rw [e]
  show some ((arrV _ n fun j => .int (f j)).setSlot _ _) = some (arrV _ n fun j => .int (upd f i.toNatClampNeg x j))
  rw [arrV_store]
  congr 2
  funext q
  by_cases hq : q = i.toNatClampNeg <;> simp [updV, upd, hq]
theorem xw_zast (hexec : p.tables.exec = Jvm.exec) (hb : c.code = cc) (hR : xR D cl cT s bs S H) (hS : va_S (fun q => bs.1 ≤ q) H0 H locs) {k n : Nat} {f : Nat → Int32} (hk : xat S k = some (.inl (.boolean, n, .inl f))) {i x : Int32} (hin : xin i n = true) (hdg : decode cc pc = .ok (.bastore, 1))
    (kk : ∀ (H1 : Heap) (locs1 : List Loc), xR D cl cT s bs (xput S k (.inl (.boolean, n, .inl (upd f i.toNatClampNeg (vp_nar .boolean x))))) H1 → va_S (fun q => bs.1 ≤ q) H0 H1 locs1 → W p l e R s m args below meth c H1 locs1 cells slots Q (F0 m (pc + 1) ls rest)) : W p l e R s m args below meth c H locs cells slots Q (F0 m pc ls (.int x :: .int i :: .ref (bs.1 + k) :: rest)) := by
  obtain ⟨h1, h2, h3⟩ := hR.2.2.2 k _ hk
  refine W.zast hexec hb h1 (h2 n (fun j => .int (f j))) (fun q => by cases q) (by show ¬ (i < 0 ∨ (arrV _ _ _).slots.size ≤ _); rw [arrV_size]; exact xin_in hin) rfl rfl hdg fun H1 e z oq => ?_
  refine kk H1 _ (hR.set hk z oq ⟨?_, h2, h3⟩) (hS.put z oq (Nat.le_add_right _ _))
  rw [e]
  show some ((arrV _ n fun j => .int (f j)).setSlot _ _) = some (arrV _ n fun j => .int (upd f i.toNatClampNeg _ j))
  rw [arrV_store]
  congr 2
  funext q
  by_cases hq : q = i.toNatClampNeg <;> simp [updV, upd, hq, vp_nar, narrow]
theorem xw_last (hexec : p.tables.exec = Jvm.exec) (hb : c.code = cc) (hR : xR D cl cT s bs S H) (hS : va_S (fun q => bs.1 ≤ q) H0 H locs) {k n : Nat} {f : Nat → Int64} (hk : xat S k = some (.inl (.long, n, .inr (.inl f)))) {i : Int32} {x : Int64} (hin : xin i n = true) (hdg : decode cc pc = .ok (.lastore, 1))
    (kk : ∀ (H1 : Heap) (locs1 : List Loc), xR D cl cT s bs (xput S k (.inl (.long, n, .inr (.inl (vp_updL f i.toNatClampNeg x))))) H1 → va_S (fun q => bs.1 ≤ q) H0 H1 locs1 → W p l e R s m args below meth c H1 locs1 cells slots Q (F0 m (pc + 1) ls rest)) : W p l e R s m args below meth c H locs cells slots Q (F0 m pc ls (.long x :: .int i :: .ref (bs.1 + k) :: rest)) := by
  obtain ⟨h1, h2, h3⟩ := hR.2.2.2 k _ hk
  refine W.last hexec hb h1 (h2 n (fun j => .long (f j))) (fun q => by cases q) (by show ¬ (i < 0 ∨ (arrV _ _ _).slots.size ≤ _); rw [arrV_size]; exact xin_in hin) rfl rfl hdg fun H1 e z oq => ?_
  refine kk H1 _ (hR.set hk z oq ⟨?_, h2, h3⟩) (hS.put z oq (Nat.le_add_right _ _))
  rw [e]
  show some ((arrV _ n fun j => .long (f j)).setSlot _ _) = some (arrV _ n fun j => .long (vp_updL f i.toNatClampNeg x j))
  rw [arrV_store]
  congr 2
  funext q
  by_cases hq : q = i.toNatClampNeg <;> simp [updV, vp_updL, hq]
theorem xw_aast (hexec : p.tables.exec = Jvm.exec) (hb : c.code = cc) (hR : xR D cl cT s bs S H) (hS : va_S (fun q => bs.1 ≤ q) H0 H locs) {k n v ci : Nat} {r : vw_C} {vs : List Value} {f : Nat → Option Nat} (hk : xat S k = some (.inl (.object r.1, n, .inr (.inr (.inr (.inr f)))))) (hv : xat S v = some (.inr (some (ci, vs)))) (hc : cl[ci]? = some r) {i : Int32} (hin : xin i n = true) (hdg : decode cc pc = .ok (.aastore, 1))
    (kk : ∀ (H1 : Heap) (locs1 : List Loc), xR D cl cT s bs (xput S k (.inl (.object r.1, n, .inr (.inr (.inr (.inr (va_up f i.toNatClampNeg (some v)))))))) H1 → va_S (fun q => bs.1 ≤ q) H0 H1 locs1 → W p l e R s m args below meth c H1 locs1 cells slots Q (F0 m (pc + 1) ls rest)) : W p l e R s m args below meth c H locs cells slots Q (F0 m pc ls (.ref (bs.1 + v) :: .int i :: .ref (bs.1 + k) :: rest)) := by
  have hi := xin_in hin
  have hlt : i.toNatClampNeg < n := Nat.not_le.mp fun q => hi (Or.inr q)
  have h0 : ¬ i < 0 := fun q => hi (Or.inl q)
  obtain ⟨h1, h2, h3⟩ := hR.2.2.2 k _ hk
  obtain ⟨r', hr', cellV, g1, g2, g3, -⟩ := hR.2.2.2 v _ hv
  have hcls := (hR.2.1.1 ci r hc).2
  obtain ⟨kA, comp, k1, k2, k3, -⟩ := id h3
  have hcomp : comp = D.1 ci := Option.some.inj (k3.symm.trans hcls.1)
  subst hcomp
  obtain ⟨kC, hkC, -⟩ := hcls.2
  refine W.aast hexec hb h1 (fun q h => by cases h) (fun h => by cases h) k1 k2 rfl hkC ⟨h0, by show _ < (arrV _ _ _).slots.size; rw [arrV_size]; exact hlt⟩ g1 (fun q h => by rw [g3] at h; cases h) (by rw [g2]; exact hkC) (by rw [g2]; exact va_assign hcls) rfl rfl hdg fun H1 e z oq => ?_
  refine kk H1 _ (hR.set hk z oq ⟨?_, h2, h3⟩) (hS.put z oq (Nat.le_add_right _ _))
  rw [e]
  show some ((arrV _ n fun j => va_rf ((f j).map fun k => bs.1 + k)).setSlot _ _) = some (arrV _ n fun j => va_rf ((va_up f i.toNatClampNeg (some v) j).map fun k => bs.1 + k))
  rw [arrV_store]
  congr 2
  funext q
  by_cases hq : q = i.toNatClampNeg <;> simp [updV, va_up, hq, va_rf]
end XW
