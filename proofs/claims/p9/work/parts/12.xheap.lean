/-- what is asked of the classes: their words, their fields' types and names, their fields' first values -/
def xCls (cl : List vw_C) (fty : Nat → Nat → FieldType) (fdef : Nat → List Value) (Ts : List Cond) : Prop := ∀ (ci : Nat) (q : vw_C), cl[ci]? = some q →
  (∀ w ∈ u_ws q.1 q.2.1 q.2.2, w ∈ Ts) ∧ (∀ k, k < q.2.2 → parseFieldDescriptor (q.2.1 k).2.2.1 = some (fty ci k)) ∧ (∀ a, a < q.2.2 → ∀ b, b < q.2.2 → a ≠ b → (q.2.1 a).2.1 ≠ (q.2.1 b).2.1) ∧
  (∀ j, j < q.2.2 → defaultValue (fty ci j) = vp_V (fdef ci) j) ∧ (∀ bs : xB, (fdef ci).map (cv bs) = fdef ci)
section XH
variable {p : Program} {l : Launch} {e : Env} {R : Room} {s : State} {m : MethodId} {args : Array Value} {below : List Frame} {meth : Method} {c : Code} {H : Heap} {locs : List Loc} {cells slots : Nat} {Q : State → Prop}
variable {cc : ByteArray} {pc : Nat} {ls : Array Slot} {rest : List Value} {D : va_G} {cl : List vw_C} {cT : FieldType → ClassId} {bs : xB} {S : xS} {H0 : Heap} {fty : Nat → Nat → FieldType} {fdef : Nat → List Value} {Ts : List Cond}
theorem xw_get (hexec : p.tables.exec = Jvm.exec) (hb : c.code = cc) (hts : ∀ w ∈ Ts, w.before args s = true) (hC : xCls cl fty fdef Ts) {own : String} (hown : s.vm.findClass own = some m.cls) (hR : xR D cl cT s bs S H) {k ci j index : Nat} {q : vw_C} {fs : List Value} {v : Value} (hk : xat S k = some (.inr (some (ci, fs)))) (hc : cl[ci]? = some q) (hj : j < q.2.2) (hv : fs[j]? = some v) (hlink : (Cond.fieldLink own index (q.2.1 j).1 (q.2.1 j).2.1 (q.2.1 j).2.2.1) ∈ Ts) (hdg : decode cc pc = .ok (.getfield index, 3))
    (kk : W p l e R s m args below meth c H locs cells slots Q (F0 m (pc + 3) ls (cv bs v :: rest))) : W p l e R s m args below meth c H locs cells slots Q (F0 m pc ls (.ref (bs.1 + k) :: rest)) := by
  have h1 := hR.2.2.2 k _ hk
  exact va_get (D := D) (ci := ci) (v := cv bs v) (C := q.1) (T := q.2.1) (N := q.2.2) hexec hb hts (hC ci q hc).1 hown hR.2.1 (xP1 (q := (bs.1 + k, .inr (ci, fs.map (cv bs)))) h1) 0 rfl hc j hj (hts _ hlink) (fun _ h9 => h9) (by rw [List.getElem?_map, hv]; rfl) hdg kk
theorem xw_put (hexec : p.tables.exec = Jvm.exec) (hb : c.code = cc) (hts : ∀ w ∈ Ts, w.before args s = true) (hC : xCls cl fty fdef Ts) {own : String} (hown : s.vm.findClass own = some m.cls) (hR : xR D cl cT s bs S H) (hS : va_S (fun q => bs.1 ≤ q) H0 H locs) {k ci j index : Nat} {q : vw_C} {fs : List Value} {v : Value} (hk : xat S k = some (.inr (some (ci, fs)))) (hc : cl[ci]? = some q) (hj : j < q.2.2) (hl : j < fs.length) (hn : narrow (fty ci j) v = v) (hfit : fits (fty ci j) v = true) (hfin : (q.2.1 j).2.2.2 = false ∨ ((q.2.1 j).2.2.2 = true ∧ meth.name = "<init>" ∧ (q.2.1 j).1 = own)) (hlink : (Cond.fieldLink own index (q.2.1 j).1 (q.2.1 j).2.1 (q.2.1 j).2.2.1) ∈ Ts) (hdg : decode cc pc = .ok (.putfield index, 3))
    (kk : ∀ (H1 : Heap) (locs1 : List Loc), xR D cl cT s bs (xput S k (.inr (some (ci, fs.set j v)))) H1 → va_S (fun q => bs.1 ≤ q) H0 H1 locs1 → W p l e R s m args below meth c H1 locs1 cells slots Q (F0 m (pc + 3) ls rest)) : W p l e R s m args below meth c H locs cells slots Q (F0 m pc ls (cv bs v :: .ref (bs.1 + k) :: rest)) := by
  obtain ⟨hin, hty, hnm, -, -⟩ := hC ci q hc
  have hap := va_apart (own := own) hts hin (fty ci) hty hnm hR.2.1 hc
  obtain ⟨r, h1, cell, q1, q2, q3, q4⟩ := hR.2.2.2 k _ hk
  have hr : r = q := Option.some.inj (h1.symm.trans hc)
  subst hr
  obtain ⟨hSl, hfc, kC, hkC, hkind⟩ := hR.2.1.1 ci _ hc
  obtain ⟨cf, kf, fi, f, hi, hsl⟩ := hSl j hj
  have hst := (u_facts hfc hkC (u_lays hts hin hj) hi).1
  have hd := hty j hj
  have hlm : j < (fs.map (cv bs)).length := by rw [List.length_map]; exact hl
  have fin : ∀ H' : Heap, H'[bs.1 + k]? = some (cell.setSlot f.slot (cv bs v)) → H'.size = H.size → (∀ q, q ≠ bs.1 + k → H'[q]? = H[q]?) → W p l e R s m args below meth c H' (locs ++ [⟨bs.1 + k, f.slot⟩]) cells slots Q (F0 m (pc + 3) ls rest) := by
    intro H' e1 e2 e3
    rw [hsl] at e1 ⊢
    refine kk H' _ (hR.set hk e2 e3 ⟨_, hc, ?_⟩) (hS.put e2 e3 (Nat.le_add_right _ _))
    show t_OB _ _ _ _ _ (vp_V ((fs.set j v).map (cv bs)))
    rw [List.map_set]
    exact t_OB.to (V := updV (vp_V (fs.map (cv bs))) j (cv bs v)) ⟨_, e1, q2, q3, t_set q4 hap hj (cv bs v)⟩ (fun i _ => vp_updV_set hlm (cv bs v) i)
  have hlay := hts _ (hin _ (u_in_lay hj))
  unfold u_lay at hlay
  rcases hfin with hfin | ⟨hfin, hin2, hdecl⟩
  · rw [if_neg (by rw [hfin]; decide)] at hlay
    have h6 := u_store hfc hkC hkind hlay hi hd (cv_narrow (bs := bs) hn) (cv_fits (bs := bs) hfit)
    exact W.putK hexec hb (f := f) ⟨hown, hts _ hlink, ⟨_, _, _, hi⟩, hst⟩ (by rw [q2]; exact h6) q1 q3 (by rw [hsl]; exact k2_hasslot (q4 j hj)) rfl rfl hdg fin
  · rw [if_pos hfin] at hlay
    have hcf : m.cls = cf := by
      obtain ⟨_, _, c', _, _, _, -, -, hf', -, -, -, hown2, -⟩ := Cond.laysFinal_spec hlay
      have e1 : c' = cf := by have := hi.symm.trans hf'; simp at this; exact this.1.symm
      rw [hdecl] at hown2
      rw [← e1]; exact Option.some.inj (hown.symm.trans hown2)
    have h6 := u_fits hfc hkC hkind (Or.inr hlay) hi hd (cv_narrow (bs := bs) hn) (cv_fits (bs := bs) hfit)
    exact W.putFinK hexec hb hown (hts _ hlink) hi hst hcf hin2 (by rw [q2]; exact h6) q1 q3 (by rw [hsl]; exact k2_hasslot (q4 j hj)) rfl rfl hdg fin
theorem xw_new (hexec : p.tables.exec = Jvm.exec) (hb : c.code = cc) (hts : ∀ w ∈ Ts, w.before args s = true) (hC : xCls cl fty fdef Ts) {own : String} (hown : s.vm.findClass own = some m.cls) (hR : xR D cl cT s bs S H) (hS : va_S (fun q => bs.1 ≤ q) H0 H locs) {ci index : Nat} {q : vw_C} (hc : cl[ci]? = some q) {S' : xS} (hn : xnew S (.inr (some (ci, fdef ci))) q.2.2 = some S') (hcl : Cond.classLink own index q.1 ∈ Ts) (hinst : Cond.instantiable q.1 q.2.2 ∈ Ts) (hini : Cond.initialized q.1 ∈ Ts) (hcells : cells + 1 ≤ R.cells) (hslots : slots + q.2.2 ≤ R.slots) (hdg : decode cc pc = .ok (.new index, 3))
    (kk : ∀ (H1 : Heap), xR D cl cT s bs S' H1 → va_S (fun q => bs.1 ≤ q) H0 H1 locs → W p l e R s m args below meth c H1 locs (cells + 1) (slots + q.2.2) Q (F0 m (pc + 3) ls (.ref (bs.1 + S.1) :: rest))) : W p l e R s m args below meth c H locs cells slots Q (F0 m pc ls rest) := by
  obtain ⟨hin, hty, -, hdf, hdm⟩ := hC ci q hc
  have hKn := hR.2.1.1 ci _ hc
  refine W.newcK (h := bs.1 + S.1) hexec hb hown (hts _ hcl) (hts _ hinst) (hts _ hini) rfl hdg hcells hslots hKn.2.1 hR.1 fun H1 kC hkC e1 z1 o1 => ?_
  refine kk H1 (hR.new hn (by rw [z1, hR.1]) (fun x hx => o1 x (by rw [← hR.1]; exact hx)) ⟨_, hc, ?_⟩) ⟨Nat.le_trans hS.1 (by rw [z1, hR.1]; omega), fun x h1 h2 => (o1 x (by rw [← hR.1]; exact Nat.lt_of_lt_of_le h1 hS.1)).trans (hS.2.1 x h1 h2), hS.2.2⟩
  show t_OB _ _ _ _ _ (vp_V ((fdef ci).map (cv bs)))
  rw [hdm bs]
  exact (u_born (fty ci) hts hin hKn hkC e1 hty).to hdf
theorem xw_newa (hexec : p.tables.exec = Jvm.exec) (hb : c.code = cc) {atype : ArrayType} (harr : (Cond.arrayClass (newarray.typeOf atype)).before args s = true) {ty : FieldType} (hty : newarray.typeOf atype = ty) (hR : xR D cl cT s bs S H) (hS : va_S (fun q => bs.1 ≤ q) H0 H locs)
    {n : Int32} {a0 : vp_A} (ha : ∀ cA : ClassId, vp_cell cA (ca bs a0) = arrV cA n.toNatClampNeg (fun _ => defaultValue ty)) (hn : ¬ n < 0) (hbytes : n.toNatClampNeg * componentBytes ty ≤ 536870912) (hcells : cells + 1 ≤ R.cells) (hslots : slots + n.toNatClampNeg ≤ R.slots) {S' : xS} (hw : xnew S (.inl (ty, a0)) n.toNatClampNeg = some S') (hdg : decode cc pc = .ok (.newarray atype, 2))
    (kk : ∀ (H1 : Heap), xR D cl cT s bs S' H1 → va_S (fun q => bs.1 ≤ q) H0 H1 locs → W p l e R s m args below meth c H1 locs (cells + 1) (slots + n.toNatClampNeg) Q (F0 m (pc + 2) ls (.ref (bs.1 + S.1) :: rest))) : W p l e R s m args below meth c H locs cells slots Q (F0 m pc ls (.int n :: rest)) := by
  subst hty
  refine va_newaK (h := bs.1 + S.1) hexec hb harr rfl hdg rfl hn rfl hbytes hcells hslots hR.1 fun H1 cA e1 z1 o1 hAr hNm => ?_
  have hcA := hR.2.2.1 _ _ hNm
  subst hcA
  refine kk H1 (hR.new hw (by rw [z1, hR.1]) (fun x hx => o1 x (by rw [← hR.1]; exact hx)) ⟨?_, hAr, ?_⟩) ⟨Nat.le_trans hS.1 (by rw [z1, hR.1]; omega), fun x h1 h2 => (o1 x (by rw [← hR.1]; exact Nat.lt_of_lt_of_le h1 hS.1)).trans (hS.2.1 x h1 h2), hS.2.2⟩
  · rw [ha]
    exact e1
  · cases atype <;> exact hNm
theorem xw_newq (hexec : p.tables.exec = Jvm.exec) (hb : c.code = cc) {own C : String} {index : Nat} (hown : s.vm.findClass own = some m.cls) (hclink : (Cond.classLink own index C).before args s = true) (hover : (Cond.arrayOver (.object C)).before args s = true) (hR : xR D cl cT s bs S H) (hS : va_S (fun q => bs.1 ≤ q) H0 H locs)
    {n : Int32} (hn : ¬ n < 0) (hbytes : n.toNatClampNeg * 4 ≤ 536870912) (hcells : cells + 1 ≤ R.cells) (hslots : slots + n.toNatClampNeg ≤ R.slots) {S' : xS} (hw : xnew S (.inl (.object C, n.toNatClampNeg, .inr (.inr (.inr (.inr fun _ => none))))) n.toNatClampNeg = some S') (hdg : decode cc pc = .ok (.anewarray index, 3))
    (kk : ∀ (H1 : Heap), xR D cl cT s bs S' H1 → va_S (fun q => bs.1 ≤ q) H0 H1 locs → W p l e R s m args below meth c H1 locs (cells + 1) (slots + n.toNatClampNeg) Q (F0 m (pc + 3) ls (.ref (bs.1 + S.1) :: rest))) : W p l e R s m args below meth c H locs cells slots Q (F0 m pc ls (.int n :: rest)) := by
  refine W.anew hexec hb hown hclink hover rfl hdg rfl hn hbytes hcells hslots fun cA kA comp f1 f2 f3 f4 => ?_
  have hcA := hR.2.2.1 _ _ f1
  subst hcA
  rw [hR.1]
  generalize hH1 : H.push ({ cls := cT (.object C), slots := Array.replicate n.toNatClampNeg .null, vm := .none } : Cell) = H1
  have z1 : H1.size = H.size + 1 := by rw [← hH1, Array.size_push]
  have e1 : H1[bs.1 + S.1]? = some (arrV (cT (.object C)) n.toNatClampNeg (fun _ => .null)) := by rw [← hR.1, ← hH1, Array.getElem?_push_size, ← arrV_new]
  have o1 : ∀ q : Nat, q < H.size → H1[q]? = H[q]? := fun q hq => by rw [← hH1, Array.getElem?_push, if_neg (Nat.ne_of_lt hq)]
  have hAr : ArrOfT s (cT (.object C)) (.object C) := fun N z => ⟨(fun k h => by cases h), kA, f2, comp, f3⟩
  exact kk H1 (hR.new hw z1 o1 ⟨e1, hAr, kA, comp, f2, f3, f4, f1⟩) ⟨Nat.le_trans hS.1 (by rw [z1]; omega), fun x h1 h2 => (o1 x (Nat.lt_of_lt_of_le h1 hS.1)).trans (hS.2.1 x h1 h2), hS.2.2⟩
theorem xw_copy (hexec : p.tables.exec = Jvm.exec) (hb : c.code = cc) (hml : c.maxLocals = ls.size) {own : String} {index : Nat} (hown : s.vm.findClass own = some m.cls) (hlink : (Cond.methodLink own index arraycopyName).before args s = true) (hnat : (Cond.native arraycopyName).before args s = true) (hstat : (Cond.static arraycopyName).before args s = true) (hini : (Cond.initialized "java/lang/System").before args s = true)
    (hR : xR D cl cT s bs S H) (hS : va_S (fun q => bs.1 ≤ q) H0 H locs) {k0 k : Nat} {n0 n1 : Nat} {f g : Nat → Int32} (ha0 : xat S k0 = some (.inl (.int, n0, .inl f))) (ha1 : xat S k = some (.inl (.int, n1, .inl g)))
    {sp dp n : Int32} (h1 : ¬ sp < 0) (h2 : ¬ dp < 0) (h3 : ¬ n < 0) (h4 : sp.toNatClampNeg + n.toNatClampNeg ≤ n0) (h5 : dp.toNatClampNeg + n.toNatClampNeg ≤ n1)
    (hframes : 1 ≤ R.frames) (hlocals : (rest.map fun v => v.category).sum + (nativeFrameWords "java/lang/System" "arraycopy" 5 + 11) ≤ R.locals) (hdg : decode cc pc = .ok (.invokestatic index, 3))
    (kk : ∀ (H1 : Heap) (locs1 : List Loc), xR D cl cT s bs (xput S k (.inl (.int, n1, .inl (va_cpy f g sp.toNatClampNeg dp.toNatClampNeg n.toNatClampNeg)))) H1 → va_S (fun q => bs.1 ≤ q) H0 H1 locs1 → W p l e R s m args below meth c H1 locs1 cells slots Q (F0 m (pc + 3) ls rest)) : W p l e R s m args below meth c H locs cells slots Q (F0 m pc ls (.int n :: .int dp :: .ref (bs.1 + k) :: .int sp :: .ref (bs.1 + k0) :: rest)) := by
  have nn : ∀ z : Int32, ¬ z < 0 → z.toInt = (z.toNatClampNeg : Int) := by
    intro z hz
    have hz0 : (0 : Int) ≤ z.toInt := by
      have := Int32.not_lt.mp hz
      simpa using Int32.le_iff_toInt_le.mp this
    show z.toInt = ((z.toInt.toNat : Nat) : Int)
    omega
  intro T hT X
  obtain ⟨hc0, t0, -⟩ := hR.2.2.2 k0 _ ha0
  obtain ⟨hc1, t1, t2⟩ := hR.2.2.2 k _ ha1
  have hc0 : H[bs.1 + k0]? = some (vp_cell (cT .int) (n0, .inl f)) := hc0
  have hc1 : H[bs.1 + k]? = some (vp_cell (cT .int) (n1, .inl g)) := hc1
  obtain ⟨-, q0, hk0, cm0, hkk0⟩ := t0 n0 (fun j => .int (f j))
  obtain ⟨-, q1, hk1, cm1, hkk1⟩ := t1 n1 (fun j => .int (g j))
  obtain ⟨vm', X', step⟩ := X.arraycopy hexec hown hlink hnat hstat hini (src := bs.1 + k0) (dst := bs.1 + k) (cs := vp_cell (cT .int) (n0, .inl f)) (cd := vp_cell (cT .int) (n1, .inl g)) (srcPos := sp) (destPos := dp) (n := n) (by rw [hT]; exact hc0) (by rw [hT]; exact hc1)
    (fun _ h => by cases h) (fun _ h => by cases h) (fun h => by cases h) (fun h => by cases h) hk0 hk1 hkk0 hkk1 (by simp [refKind]) h1 h2 h3
    (by rw [nn sp h1, nn n h3]; show ¬ _ > ((arrV _ n0 (fun j => .int (f j))).slots.size : Int); rw [arrV_size]; omega)
    (by rw [nn dp h2, nn n h3]; show ¬ _ > ((arrV _ n1 (fun j => .int (g j))).slots.size : Int); rw [arrV_size]; omega)
    (fun vm₁ _ i hi => by
      have e : (vp_cell (cT .int) (n0, .inl f)).slots.getD (sp.toNatClampNeg + i) .null = .int (f (sp.toNatClampNeg + i)) := by
        show (arrV _ n0 (fun j => .int (f j))).slots.getD _ _ = _
        rw [Array.getD_eq_getD_getElem?, arrV_read _ _ (by omega)]
        rfl
      refine ⟨?_, ?_⟩
      · rw [e]
        rfl
      · rw [e]
        exact trivial)
    (g := F0 m pc ls (.int n :: .int dp :: .ref (bs.1 + k) :: .int sp :: .ref (bs.1 + k0) :: rest)) rfl (by rw [hml]) (rest := rest) rfl (by rw [hb]; exact hdg) hframes (by show 2 * 0 + _ + _ ≤ _; omega)
  have e1 : copied (vp_cell (cT .int) (n0, .inl f)) (vp_cell (cT .int) (n1, .inl g)) sp dp n = vp_cell (cT .int) (n1, .inl (va_cpy f g sp.toNatClampNeg dp.toNatClampNeg n.toNatClampNeg)) := va_copied (fun z => .int z) _ _ f g h4
  rw [e1] at X' step
  have hl : bs.1 + k < H.size := (Array.getElem?_eq_some_iff.mp hc1).1
  have hheap : ((T.setVm vm').setCell (bs.1 + k) (vp_cell (cT .int) (n1, .inl (va_cpy f g sp.toNatClampNeg dp.toNatClampNeg n.toNatClampNeg)))).heap = H.setIfInBounds (bs.1 + k) (vp_cell (cT .int) (n1, .inl (va_cpy f g sp.toNatClampNeg dp.toNatClampNeg n.toNatClampNeg))) := by rw [← hT]; rfl
  have oq : ∀ q : Nat, q ≠ bs.1 + k → (H.setIfInBounds (bs.1 + k) (vp_cell (cT .int) (n1, .inl (va_cpy f g sp.toNatClampNeg dp.toNatClampNeg n.toNatClampNeg))))[q]? = H[q]? := fun q hq => by simp [Array.getElem?_setIfInBounds, Ne.symm hq]
  obtain ⟨t, a1, b1⟩ := kk _ _ (hR.set ha1 (by simp) oq ⟨show (H.setIfInBounds (bs.1 + k) _)[bs.1 + k]? = some _ by simp [Array.getElem?_setIfInBounds, hl, ca], t1, t2⟩) ⟨by simp; exact hS.1, fun q g1 g2 => by
      rw [oq q (fun e => g2 (by rw [e]; exact Nat.le_add_right _ _))]
      exact hS.2.1 q g1 g2, fun q hq => by
      rcases List.mem_append.mp hq with h | h
      · exact hS.2.2 q h
      · obtain ⟨z, -, hz⟩ := List.mem_map.mp h
        rw [← hz]
        exact Nat.le_add_right _ _⟩ _ hheap X'
  exact ⟨t, step t a1, b1⟩
end XH
