/-- a word by its place, in two steps -/
def xq (TT : List (List Cond)) (j : Nat) : Option Cond := (TT.getD (j / 40) [])[j % 40]?
theorem xq_mem {TT : List (List Cond)} {j : Nat} {w : Cond} (h : xq TT j = some w) : w ∈ TT.flatten := by
  unfold xq at h
  have h1 := List.mem_of_getElem? h
  rcases Nat.lt_or_ge (j / 40) TT.length with q | q
  · rw [List.getD_eq_getElem?_getD, List.getElem?_eq_getElem q, Option.getD_some] at h1
    exact List.mem_flatten.mpr ⟨_, List.getElem_mem q, h1⟩
  · rw [List.getD_eq_getElem?_getD, List.getElem?_eq_none q, Option.getD_none] at h1
    cases h1
/-- what is asked of an instruction: its words, by their places -/
def xok (cl : List vw_C) (TT : List (List Cond)) (Bs : List Cond) (own : String) (ini : Bool) (xi : xI) : Bool := match xi.1 with
  | .getfield idx => (match cl[xi.2.2.1]? with
    | some q => decide (xi.2.2.2.1 < q.2.2) && decide (xq TT (xi.2.2.2.2.2) = some (Cond.fieldLink own idx (q.2.1 xi.2.2.2.1).1 (q.2.1 xi.2.2.2.1).2.1 (q.2.1 xi.2.2.2.1).2.2.1))
    | none => false)
  | .putfield idx => (match cl[xi.2.2.1]? with
    | some q => decide (xi.2.2.2.1 < q.2.2) && decide (xq TT (xi.2.2.2.2.2) = some (Cond.fieldLink own idx (q.2.1 xi.2.2.2.1).1 (q.2.1 xi.2.2.2.1).2.1 (q.2.1 xi.2.2.2.1).2.2.1)) && (!(q.2.1 xi.2.2.2.1).2.2.2 || (ini && decide ((q.2.1 xi.2.2.2.1).1 = own)))
    | none => false)
  | .new idx => (match cl[xi.2.2.1]? with
    | some q => decide (xq TT (xi.2.2.2.2.2) = some (Cond.classLink own idx q.1)) && decide (xq TT (xi.2.2.2.2.2 + 1) = some (Cond.instantiable q.1 q.2.2)) && decide (xq TT (xi.2.2.2.2.2 + 2) = some (Cond.initialized q.1))
    | none => true)
  | .newarray a => decide (xq TT (xi.2.2.2.2.2) = some (Cond.arrayClass (newarray.typeOf a)))
  | .anewarray idx => (match cl[xi.2.2.1]? with
    | some q => decide (xq TT (xi.2.2.2.2.2) = some (Cond.classLink own idx q.1)) && decide (Bs[xi.2.2.2.1]? = some (Cond.arrayOver (.object q.1)))
    | none => false)
  | .ldc idx => decide (xq TT (xi.2.2.2.2.2) = some (Cond.constant own idx (Int32.ofInt xi.2.2.2.2.1)))
  | .ldc_w idx => decide (xq TT (xi.2.2.2.2.2) = some (Cond.constant own idx (Int32.ofInt xi.2.2.2.2.1)))
  | .ldc2_w idx => decide (xq TT (xi.2.2.2.2.2) = some (Cond.constantLong own idx (Int64.ofInt xi.2.2.2.2.1)))
  | .invokespecial idx => if xi.2.2.1 = xObj then decide (xq TT (xi.2.2.2.2.2) = some (Cond.methodLink own idx objectInit)) && decide (xq TT (xi.2.2.2.2.2 + 1) = some (Cond.instanceMethod objectInit)) && decide (xq TT (xi.2.2.2.2.2 + 2) = some (Cond.code objectInit ⟨#[0xb1]⟩ 1 none)) else true
  | .invokestatic idx =>
    if xi.2.2.1 = xMax then decide (xq TT (xi.2.2.2.2.2) = some (Cond.methodLink own idx Lib.Math.max.name)) && decide (xq TT (xi.2.2.2.2.2 + 1) = some (Cond.static Lib.Math.max.name)) && decide (xq TT (xi.2.2.2.2.2 + 2) = some (Cond.initialized "java/lang/Math")) && decide (xq TT (xi.2.2.2.2.2 + 3) = some (Cond.code Lib.Math.max.name Lib.Math.max.code 2 (some .int)))
    else if xi.2.2.1 = xMin then decide (xq TT (xi.2.2.2.2.2) = some (Cond.methodLink own idx Lib.Math.min.name)) && decide (xq TT (xi.2.2.2.2.2 + 1) = some (Cond.static Lib.Math.min.name)) && decide (xq TT (xi.2.2.2.2.2 + 2) = some (Cond.initialized "java/lang/Math")) && decide (xq TT (xi.2.2.2.2.2 + 3) = some (Cond.code Lib.Math.min.name Lib.Math.min.code 2 (some .int)))
    else if xi.2.2.1 = xCopy then decide (xq TT (xi.2.2.2.2.2) = some (Cond.methodLink own idx arraycopyName)) && decide (xq TT (xi.2.2.2.2.2 + 1) = some (Cond.native arraycopyName)) && decide (xq TT (xi.2.2.2.2.2 + 2) = some (Cond.static arraycopyName)) && decide (xq TT (xi.2.2.2.2.2 + 3) = some (Cond.initialized "java/lang/System"))
    else true
  | _ => true
/-- the setting of a method's body -/
def xCx (cl : List vw_C) (fty : Nat → Nat → FieldType) (fdef : Nat → List Value) (TT : List (List Cond)) (Ts Bs : List Cond) (own : String) (ini : Bool) (cc : ByteArray) (nL : Nat) (p : Program) (R : Room) (s : State) (m : MethodId) (args : Array Value) (meth : Method) (c : Code) : Prop :=
  p.tables.exec = Jvm.exec ∧ c.code = cc ∧ c.maxLocals = nL ∧ s.vm.findClass own = some m.cls ∧ (∀ w ∈ Ts, w.before args s = true) ∧ (∀ w ∈ Bs, w.before args s = true) ∧ xCls cl fty fdef Ts ∧ (ini = true → meth.name = "<init>") ∧ 1 ≤ R.frames ∧ 16 + 12 + (nativeFrameWords "java/lang/System" "arraycopy" 5 + 11) ≤ R.locals ∧ (∀ (j : Nat) (w : Cond), xq TT j = some w → w ∈ Ts)
theorem xTq {TT : List (List Cond)} {Ts : List Cond} {args : Array Value} {s : State} (hTT : ∀ (j : Nat) (w : Cond), xq TT j = some w → w ∈ Ts) (hts : ∀ w ∈ Ts, w.before args s = true) {j : Nat} {w : Cond} (h : decide (xq TT j = some w) = true) : w.before args s = true := hts w (hTT j w (of_decide_eq_true h))
theorem xTs {Ts : List Cond} {args : Array Value} {s : State} (hts : ∀ w ∈ Ts, w.before args s = true) {j : Nat} {w : Cond} (h : decide (Ts[j]? = some w) = true) : w.before args s = true :=
  hts w (List.mem_of_getElem? (of_decide_eq_true h))
section XST
variable {p : Program} {l : Launch} {e : Env} {R : Room} {s : State} {m : MethodId} {args : Array Value} {below : List Frame} {meth : Method} {c : Code} {H : Heap} {locs : List Loc} {cells slots : Nat} {Q : State → Prop}
variable {sc : xSc} {cc : ByteArray} {pc nL : Nat} {ls : Array Slot} {D : va_G} {cl : List vw_C} {cT : FieldType → ClassId} {bs : xB} {H0 : Heap} {fty : Nat → Nat → FieldType} {fdef : Nat → List Value} {TT : List (List Cond)} {Ts Bs : List Cond} {own : String} {ini : Bool}
/-- the machine goes on from a frame of the small one, so many cells and slots further -/
def xK (p : Program) (l : Launch) (e : Env) (R : Room) (s : State) (m : MethodId) (args : Array Value) (below : List Frame) (meth : Method) (c : Code) (Q : State → Prop) (D : va_G) (cl : List vw_C) (cT : FieldType → ClassId) (bs : xB) (nL : Nat) (H0 : Heap) (cells slots : Nat) (S0 : xS) (fr : xF) : Prop :=
  ∀ (H1 : Heap) (locs1 : List Loc) (ls1 : Array Slot) (c1 s1 : Nat), c1 = cells + (fr.2.2.2.1 - S0.1) → s1 = slots + (fr.2.2.2.2.1 - S0.2.1) → xR D cl cT s bs fr.2.2.2 H1 → va_S (fun q => bs.1 ≤ q) H0 H1 locs1 → lv_has ls1 nL (cL bs fr.2.1) → W p l e R s m args below meth c H1 locs1 c1 s1 Q (F0 m fr.1 ls1 (fr.2.2.1.map (cv bs)))
set_option maxHeartbeats 4000000 in
set_option maxRecDepth 100000 in
theorem xst_sound (C : xCx cl fty fdef TT Ts Bs own ini cc nL p R s m args meth c) {xi : xI} {L : xL} {st : List Value} {S : xS} {fr : xF} (hok : xok cl TT Bs own ini xi = true) (hdg : decode cc pc = .ok (xi.1, xi.2.1)) (hlen : xi.2.1 = xlenOf xi.1 xi.2.1)
    (h : xst sc cl fty fdef nL xi pc L st S = some fr) (hX : va_X bs.2 (sc.1 - 1) sc.2 s H0) (hbl : bs.2 < H0.size) (hbA : ¬ bs.1 ≤ bs.2) (hR : xR D cl cT s bs S H) (hS : va_S (fun q => bs.1 ≤ q) H0 H locs) (hl : lv_has ls nL (cL bs L)) (hc : cells + (fr.2.2.2.1 - S.1) ≤ R.cells) (hs : slots + (fr.2.2.2.2.1 - S.2.1) ≤ R.slots)
    (kk : xK p l e R s m args below meth c Q D cl cT bs nL H0 cells slots S fr) : W p l e R s m args below meth c H locs cells slots Q (F0 m pc ls (st.map (cv bs))) := by
  obtain ⟨hx, hb, hml, hown, hts, hbs, hC, hini, hfr, hlo, hTT⟩ := C
  obtain ⟨ins, len, qa, qb, qz, qj⟩ := xi
  dsimp only at hok hdg hlen h
  cases ins with
  | aconst_null =>
    rw [hlen] at hdg
    cases h
    exact lv_null hx hb hdg (kk H locs ls _ _ (by simp) (by simp) hR hS hl)
  | aload i =>
    rw [hlen] at hdg
    obtain ⟨v, hv, rfl⟩ := Option.map_eq_some_iff.mp h
    rcases xldA_inv hv with ⟨x, rfl, hf⟩ | ⟨rfl, hf⟩ | ⟨x, rfl, hf⟩
    · exact lv_aload hx hb hdg (xl_at hl hf) (kk H locs ls _ _ (by simp) (by simp) hR hS hl)
    · exact lv_aloadN hx hb hdg (xl_at hl hf) (kk H locs ls _ _ (by simp) (by simp) hR hS hl)
    · exact lv_aload hx hb hdg (xl_at hl hf) (kk H locs ls _ _ (by simp) (by simp) hR hS hl)
  | aload_n i =>
    rw [hlen] at hdg
    obtain ⟨v, hv, rfl⟩ := Option.map_eq_some_iff.mp h
    rcases xldA_inv hv with ⟨x, rfl, hf⟩ | ⟨rfl, hf⟩ | ⟨x, rfl, hf⟩
    · exact lv_aload_n hx hb hdg rfl (xl_at hl hf) (kk H locs ls _ _ (by simp) (by simp) hR hS hl)
    · exact lv_aload_nN hx hb hdg rfl (xl_at hl hf) (kk H locs ls _ _ (by simp) (by simp) hR hS hl)
    · exact lv_aload_n hx hb hdg rfl (xl_at hl hf) (kk H locs ls _ _ (by simp) (by simp) hR hS hl)
  | iload i =>
    rw [hlen] at hdg
    obtain ⟨v, hv, rfl⟩ := Option.map_eq_some_iff.mp h
    obtain ⟨x, rfl, hf⟩ := xldI_inv hv
    exact lv_iload hx hb hdg (xl_at hl hf) (kk H locs ls _ _ (by simp) (by simp) hR hS hl)
  | iload_n i =>
    rw [hlen] at hdg
    obtain ⟨v, hv, rfl⟩ := Option.map_eq_some_iff.mp h
    obtain ⟨x, rfl, hf⟩ := xldI_inv hv
    exact lv_iload_n hx hb hdg rfl (xl_at hl hf) (kk H locs ls _ _ (by simp) (by simp) hR hS hl)
  | lload i =>
    rw [hlen] at hdg
    obtain ⟨v, hv, rfl⟩ := Option.map_eq_some_iff.mp h
    obtain ⟨x, rfl, hf⟩ := xldL_inv hv
    exact lv_lload hx hb hdg (xl_at hl hf) (kk H locs ls _ _ (by simp) (by simp) hR hS hl)
  | lload_n i =>
    rw [hlen] at hdg
    obtain ⟨v, hv, rfl⟩ := Option.map_eq_some_iff.mp h
    obtain ⟨x, rfl, hf⟩ := xldL_inv hv
    exact lv_lload_n hx hb hdg rfl (xl_at hl hf) (kk H locs ls _ _ (by simp) (by simp) hR hS hl)
  | astore i =>
    rw [hlen] at hdg
    obtain ⟨v, hv, rfl⟩ := Option.map_eq_some_iff.mp h
    obtain ⟨L1, r⟩ := v
    rcases xstA_inv hv with ⟨x, rfl, hi, e1⟩ | ⟨rfl, hi, e1⟩
    · dsimp only at e1; subst e1
      exact lv_astore hx hb hdg hl hi (cL_sto1 bs L _ (.ref x)) (fun ls1 hl1 => kk H locs ls1 _ _ (by simp) (by simp) hR hS hl1)
    · dsimp only at e1; subst e1
      exact lv_astoreN hx hb hdg hl hi (cL_sto1 bs L _ .null) (fun ls1 hl1 => kk H locs ls1 _ _ (by simp) (by simp) hR hS hl1)
  | istore i =>
    rw [hlen] at hdg
    obtain ⟨v, hv, rfl⟩ := Option.map_eq_some_iff.mp h
    obtain ⟨L1, r⟩ := v
    obtain ⟨x, rfl, hi, e1⟩ := xstI_inv hv
    dsimp only at e1; subst e1
    exact lv_istore hx hb hdg hl hi (cL_sto1 bs L _ (.int x)) (fun ls1 hl1 => kk H locs ls1 _ _ (by simp) (by simp) hR hS hl1)
  | lstore i =>
    rw [hlen] at hdg
    obtain ⟨v, hv, rfl⟩ := Option.map_eq_some_iff.mp h
    obtain ⟨L1, r⟩ := v
    obtain ⟨x, rfl, hi, e1⟩ := xstL_inv hv
    dsimp only at e1; subst e1
    exact lv_lstore hx hb hdg hl hi (cL_sto2 bs L _ (.long x)) (fun ls1 hl1 => kk H locs ls1 _ _ (by simp) (by simp) hR hS hl1)
  | astore_n i =>
    rw [hlen] at hdg
    obtain ⟨v, hv, rfl⟩ := Option.map_eq_some_iff.mp h
    obtain ⟨L1, r⟩ := v
    rcases xstA_inv hv with ⟨x, rfl, hi, e1⟩ | ⟨rfl, hi, e1⟩
    · dsimp only at e1; subst e1
      exact lv_astore_n hx hb hdg rfl hl hi (cL_sto1 bs L _ (.ref x)) (fun ls1 hl1 => kk H locs ls1 _ _ (by simp) (by simp) hR hS hl1)
    · dsimp only at e1; subst e1
      exact lv_astore_nN hx hb hdg rfl hl hi (cL_sto1 bs L _ .null) (fun ls1 hl1 => kk H locs ls1 _ _ (by simp) (by simp) hR hS hl1)
  | istore_n i =>
    rw [hlen] at hdg
    obtain ⟨v, hv, rfl⟩ := Option.map_eq_some_iff.mp h
    obtain ⟨L1, r⟩ := v
    obtain ⟨x, rfl, hi, e1⟩ := xstI_inv hv
    dsimp only at e1; subst e1
    exact lv_istore_n hx hb hdg rfl hl hi (cL_sto1 bs L _ (.int x)) (fun ls1 hl1 => kk H locs ls1 _ _ (by simp) (by simp) hR hS hl1)
  | lstore_n i =>
    rw [hlen] at hdg
    obtain ⟨v, hv, rfl⟩ := Option.map_eq_some_iff.mp h
    obtain ⟨L1, r⟩ := v
    obtain ⟨x, rfl, hi, e1⟩ := xstL_inv hv
    dsimp only at e1; subst e1
    exact lv_lstore_n hx hb hdg rfl hl hi (cL_sto2 bs L _ (.long x)) (fun ls1 hl1 => kk H locs ls1 _ _ (by simp) (by simp) hR hS hl1)
  | iinc i n =>
    rw [hlen] at hdg
    unfold xst at h
    dsimp only at h
    split at h
    · rename_i x hf
      split at h
      · rename_i hi
        cases h
        obtain ⟨k, hk⟩ := List.getElem?_of_mem (List.mem_map.mpr ⟨(i, .int x), xfind_mem hf, rfl⟩ : (i, cv bs (.int x)) ∈ cL bs L)
        exact lv_iinc (x := x) hx hb hdg hl hk rfl hi (cL_sto1 bs L i (.int (x + Int32.ofInt n))) (fun ls1 hl1 => kk H locs ls1 _ _ (by simp) (by simp) hR hS hl1)
      · cases h
    · cases h
  | iconst n =>
    rw [hlen] at hdg
    cases h
    exact lv_iconst hx hb hdg rfl (kk H locs ls _ _ (by simp) (by simp) hR hS hl)
  | bipush n =>
    rw [hlen] at hdg
    cases h
    exact lv_bipush hx hb hdg rfl (kk H locs ls _ _ (by simp) (by simp) hR hS hl)
  | sipush n =>
    rw [hlen] at hdg
    cases h
    exact lv_sipush hx hb hdg rfl (kk H locs ls _ _ (by simp) (by simp) hR hS hl)
  | lconst n =>
    rw [hlen] at hdg
    cases h
    exact lv_lconst hx hb hdg rfl (kk H locs ls _ _ (by simp) (by simp) hR hS hl)
  | ldc idx =>
    rw [hlen] at hdg
    cases h
    exact lv_ldc hx hb hown (xTq hTT hts hok) hdg (kk H locs ls _ _ (by simp) (by simp) hR hS hl)
  | ldc_w idx =>
    rw [hlen] at hdg
    cases h
    exact lv_ldcw hx hb hown (xTq hTT hts hok) hdg (kk H locs ls _ _ (by simp) (by simp) hR hS hl)
  | ldc2_w idx =>
    rw [hlen] at hdg
    cases h
    exact lv_ldc2 hx hb hown (xTq hTT hts hok) hdg (kk H locs ls _ _ (by simp) (by simp) hR hS hl)
  | iadd =>
    rw [hlen] at hdg
    obtain ⟨t, ht, rfl⟩ := Option.map_eq_some_iff.mp h
    obtain ⟨x, y, z, r, rfl, hz, rfl⟩ := xii_inv ht
    cases hz
    exact lv_iadd hx hb hdg (kk H locs ls _ _ (by simp) (by simp) hR hS hl)
  | isub =>
    rw [hlen] at hdg
    obtain ⟨t, ht, rfl⟩ := Option.map_eq_some_iff.mp h
    obtain ⟨x, y, z, r, rfl, hz, rfl⟩ := xii_inv ht
    cases hz
    exact lv_isub hx hb hdg (kk H locs ls _ _ (by simp) (by simp) hR hS hl)
  | imul =>
    rw [hlen] at hdg
    obtain ⟨t, ht, rfl⟩ := Option.map_eq_some_iff.mp h
    obtain ⟨x, y, z, r, rfl, hz, rfl⟩ := xii_inv ht
    cases hz
    exact lv_imul hx hb hdg (kk H locs ls _ _ (by simp) (by simp) hR hS hl)
  | iand =>
    rw [hlen] at hdg
    obtain ⟨t, ht, rfl⟩ := Option.map_eq_some_iff.mp h
    obtain ⟨x, y, z, r, rfl, hz, rfl⟩ := xii_inv ht
    cases hz
    exact lv_iand hx hb hdg (kk H locs ls _ _ (by simp) (by simp) hR hS hl)
  | ior =>
    rw [hlen] at hdg
    obtain ⟨t, ht, rfl⟩ := Option.map_eq_some_iff.mp h
    obtain ⟨x, y, z, r, rfl, hz, rfl⟩ := xii_inv ht
    cases hz
    exact lv_ior hx hb hdg (kk H locs ls _ _ (by simp) (by simp) hR hS hl)
  | ixor =>
    rw [hlen] at hdg
    obtain ⟨t, ht, rfl⟩ := Option.map_eq_some_iff.mp h
    obtain ⟨x, y, z, r, rfl, hz, rfl⟩ := xii_inv ht
    cases hz
    exact lv_ixor hx hb hdg (kk H locs ls _ _ (by simp) (by simp) hR hS hl)
  | ishl =>
    rw [hlen] at hdg
    obtain ⟨t, ht, rfl⟩ := Option.map_eq_some_iff.mp h
    obtain ⟨x, y, z, r, rfl, hz, rfl⟩ := xii_inv ht
    cases hz
    exact lv_ishl hx hb hdg (kk H locs ls _ _ (by simp) (by simp) hR hS hl)
  | ishr =>
    rw [hlen] at hdg
    obtain ⟨t, ht, rfl⟩ := Option.map_eq_some_iff.mp h
    obtain ⟨x, y, z, r, rfl, hz, rfl⟩ := xii_inv ht
    cases hz
    exact lv_ishr hx hb hdg (kk H locs ls _ _ (by simp) (by simp) hR hS hl)
  | iushr =>
    rw [hlen] at hdg
    obtain ⟨t, ht, rfl⟩ := Option.map_eq_some_iff.mp h
    obtain ⟨x, y, z, r, rfl, hz, rfl⟩ := xii_inv ht
    cases hz
    exact lv_iushr hx hb hdg rfl (kk H locs ls _ _ (by simp) (by simp) hR hS hl)
  | idiv =>
    rw [hlen] at hdg
    obtain ⟨t, ht, rfl⟩ := Option.map_eq_some_iff.mp h
    obtain ⟨x, y, z, r, rfl, hz, rfl⟩ := xii_inv ht
    split at hz
    · cases hz
    · rename_i hy
      cases hz
      exact lv_idiv hx hb hdg hy (kk H locs ls _ _ (by simp) (by simp) hR hS hl)
  | irem =>
    rw [hlen] at hdg
    obtain ⟨t, ht, rfl⟩ := Option.map_eq_some_iff.mp h
    obtain ⟨x, y, z, r, rfl, hz, rfl⟩ := xii_inv ht
    split at hz
    · cases hz
    · rename_i hy
      cases hz
      exact lv_irem hx hb hdg hy (kk H locs ls _ _ (by simp) (by simp) hR hS hl)
  | ineg =>
    rw [hlen] at hdg
    obtain ⟨t, ht, rfl⟩ := Option.map_eq_some_iff.mp h
    obtain ⟨x, r, rfl, rfl⟩ := xi1_inv ht
    exact lv_ineg hx hb hdg (kk H locs ls _ _ (by simp) (by simp) hR hS hl)
  | i2l =>
    rw [hlen] at hdg
    obtain ⟨t, ht, rfl⟩ := Option.map_eq_some_iff.mp h
    obtain ⟨x, r, rfl, rfl⟩ := xi1_inv ht
    exact lv_i2l hx hb hdg rfl (kk H locs ls _ _ (by simp) (by simp) hR hS hl)
  | l2i =>
    rw [hlen] at hdg
    obtain ⟨t, ht, rfl⟩ := Option.map_eq_some_iff.mp h
    obtain ⟨x, r, rfl, rfl⟩ := xl1_inv ht
    exact lv_l2i hx hb hdg rfl (kk H locs ls _ _ (by simp) (by simp) hR hS hl)
  | land =>
    rw [hlen] at hdg
    obtain ⟨t, ht, rfl⟩ := Option.map_eq_some_iff.mp h
    obtain ⟨x, y, r, rfl, rfl⟩ := xll_inv ht
    exact lv_land hx hb hdg (kk H locs ls _ _ (by simp) (by simp) hR hS hl)
  | lor =>
    rw [hlen] at hdg
    obtain ⟨t, ht, rfl⟩ := Option.map_eq_some_iff.mp h
    obtain ⟨x, y, r, rfl, rfl⟩ := xll_inv ht
    exact lv_lor hx hb hdg (kk H locs ls _ _ (by simp) (by simp) hR hS hl)
  | lxor =>
    rw [hlen] at hdg
    obtain ⟨t, ht, rfl⟩ := Option.map_eq_some_iff.mp h
    obtain ⟨x, y, r, rfl, rfl⟩ := xll_inv ht
    exact lv_lxor hx hb hdg (kk H locs ls _ _ (by simp) (by simp) hR hS hl)
  | lmul =>
    rw [hlen] at hdg
    obtain ⟨t, ht, rfl⟩ := Option.map_eq_some_iff.mp h
    obtain ⟨x, y, r, rfl, rfl⟩ := xll_inv ht
    exact lv_lmul hx hb hdg (kk H locs ls _ _ (by simp) (by simp) hR hS hl)
  | lcmp =>
    rw [hlen] at hdg
    obtain ⟨t, ht, rfl⟩ := Option.map_eq_some_iff.mp h
    obtain ⟨x, y, r, rfl, rfl⟩ := xll_inv ht
    exact W.lcmp hx hb hdg (kk H locs ls _ _ (by simp) (by simp) hR hS hl)
  | lshl =>
    rw [hlen] at hdg
    obtain ⟨t, ht, rfl⟩ := Option.map_eq_some_iff.mp h
    obtain ⟨x, y, r, rfl, rfl⟩ := xli_inv ht
    exact lv_lshl hx hb hdg rfl (kk H locs ls _ _ (by simp) (by simp) hR hS hl)
  | lshr =>
    rw [hlen] at hdg
    obtain ⟨t, ht, rfl⟩ := Option.map_eq_some_iff.mp h
    obtain ⟨x, y, r, rfl, rfl⟩ := xli_inv ht
    exact lv_lshr hx hb hdg rfl (kk H locs ls _ _ (by simp) (by simp) hR hS hl)
  | lushr =>
    rw [hlen] at hdg
    obtain ⟨t, ht, rfl⟩ := Option.map_eq_some_iff.mp h
    obtain ⟨x, y, r, rfl, rfl⟩ := xli_inv ht
    exact lv_lushr hx hb hdg rfl (kk H locs ls _ _ (by simp) (by simp) hR hS hl)
  | dup =>
    rw [hlen] at hdg
    unfold xst at h
    dsimp only at h
    split at h
    · rename_i v r
      split at h
      · rename_i hv
        cases h
        exact lv_dup hx hb hdg (by rw [cv_cat]; exact hv) (kk H locs ls _ _ (by simp) (by simp) hR hS hl)
      · cases h
    · cases h
  | pop =>
    rw [hlen] at hdg
    unfold xst at h
    dsimp only at h
    split at h
    · rename_i v r
      split at h
      · rename_i hv
        cases h
        exact lv_pop hx hb hdg (by rw [cv_cat]; exact hv) (kk H locs ls _ _ (by simp) (by simp) hR hS hl)
      · cases h
    · cases h
  | dup2 =>
    rw [hlen] at hdg
    unfold xst at h
    dsimp only at h
    split at h
    · rename_i v w r
      split at h
      · rename_i hv
        cases h
        exact lv_dup2_11 hx hb hdg (by rw [cv_cat]; exact hv.1) (by rw [cv_cat]; exact hv.2) (kk H locs ls _ _ (by simp) (by simp) hR hS hl)
      · cases h
    · cases h
  | goto off =>
    rw [hlen] at hdg
    obtain ⟨t, ht, rfl⟩ := Option.map_eq_some_iff.mp h
    exact lv_goto hx hb hdg (xtg_spec ht) (kk H locs ls _ _ (by simp) (by simp) hR hS hl)
  | ifCond cnd off =>
    rw [hlen] at hdg
    obtain ⟨v, hv, rfl⟩ := Option.map_eq_some_iff.mp h
    obtain ⟨pc1, r⟩ := v
    obtain ⟨x, t, rfl, hoff, e1⟩ := xif_inv hv
    dsimp only at e1 kk; subst e1
    cases cnd with
    | eq =>
      refine lv_if_eq hx hb hdg hoff (fun hc9 => ?_) (fun hc9 => ?_)
      · have k9 := kk H locs ls cells slots (by simp) (by simp) hR hS hl
        rw [show xcmp .eq x 0 = true from by simp [xcmp, hc9]] at k9
        exact k9
      · have k9 := kk H locs ls cells slots (by simp) (by simp) hR hS hl
        rw [show xcmp .eq x 0 = false from by simp [xcmp, hc9]] at k9
        exact k9
    | ne =>
      refine lv_if_ne hx hb hdg hoff (fun hc9 => ?_) (fun hc9 => ?_)
      · have k9 := kk H locs ls cells slots (by simp) (by simp) hR hS hl
        rw [show xcmp .ne x 0 = true from by simp [xcmp, hc9]] at k9
        exact k9
      · have k9 := kk H locs ls cells slots (by simp) (by simp) hR hS hl
        rw [show xcmp .ne x 0 = false from by simp [xcmp, hc9]] at k9
        exact k9
    | lt =>
      refine lv_if_lt hx hb hdg hoff (fun hc9 => ?_) (fun hc9 => ?_)
      · have k9 := kk H locs ls cells slots (by simp) (by simp) hR hS hl
        rw [show xcmp .lt x 0 = true from by simp [xcmp, hc9]] at k9
        exact k9
      · have k9 := kk H locs ls cells slots (by simp) (by simp) hR hS hl
        rw [show xcmp .lt x 0 = false from by simp [xcmp, hc9]] at k9
        exact k9
    | ge =>
      refine lv_if_ge hx hb hdg hoff (fun hc9 => ?_) (fun hc9 => ?_)
      · have k9 := kk H locs ls cells slots (by simp) (by simp) hR hS hl
        rw [show xcmp .ge x 0 = true from by simp [xcmp, hc9]] at k9
        exact k9
      · have k9 := kk H locs ls cells slots (by simp) (by simp) hR hS hl
        rw [show xcmp .ge x 0 = false from by simp [xcmp, hc9]] at k9
        exact k9
    | gt =>
      refine lv_if_gt hx hb hdg hoff (fun hc9 => ?_) (fun hc9 => ?_)
      · have k9 := kk H locs ls cells slots (by simp) (by simp) hR hS hl
        rw [show xcmp .gt x 0 = true from by simp [xcmp, hc9]] at k9
        exact k9
      · have k9 := kk H locs ls cells slots (by simp) (by simp) hR hS hl
        rw [show xcmp .gt x 0 = false from by simp [xcmp, hc9]] at k9
        exact k9
    | le =>
      refine lv_if_le hx hb hdg hoff (fun hc9 => ?_) (fun hc9 => ?_)
      · have k9 := kk H locs ls cells slots (by simp) (by simp) hR hS hl
        rw [show xcmp .le x 0 = true from by simp [xcmp, hc9]] at k9
        exact k9
      · have k9 := kk H locs ls cells slots (by simp) (by simp) hR hS hl
        rw [show xcmp .le x 0 = false from by simp [xcmp, hc9]] at k9
        exact k9
  | if_icmp cnd off =>
    rw [hlen] at hdg
    obtain ⟨v, hv, rfl⟩ := Option.map_eq_some_iff.mp h
    obtain ⟨pc1, r⟩ := v
    obtain ⟨x, y, t, rfl, hoff, e1⟩ := xicmp_inv hv
    dsimp only at e1 kk; subst e1
    cases cnd with
    | eq =>
      refine lv_icmp_eq hx hb hdg hoff (fun hc9 => ?_) (fun hc9 => ?_)
      · have k9 := kk H locs ls cells slots (by simp) (by simp) hR hS hl
        rw [show xcmp .eq x y = true from by simp [xcmp, hc9]] at k9
        exact k9
      · have k9 := kk H locs ls cells slots (by simp) (by simp) hR hS hl
        rw [show xcmp .eq x y = false from by simp [xcmp, hc9]] at k9
        exact k9
    | ne =>
      refine lv_icmp_ne hx hb hdg hoff (fun hc9 => ?_) (fun hc9 => ?_)
      · have k9 := kk H locs ls cells slots (by simp) (by simp) hR hS hl
        rw [show xcmp .ne x y = true from by simp [xcmp, hc9]] at k9
        exact k9
      · have k9 := kk H locs ls cells slots (by simp) (by simp) hR hS hl
        rw [show xcmp .ne x y = false from by simp [xcmp, hc9]] at k9
        exact k9
    | lt =>
      refine lv_icmp_lt hx hb hdg hoff (fun hc9 => ?_) (fun hc9 => ?_)
      · have k9 := kk H locs ls cells slots (by simp) (by simp) hR hS hl
        rw [show xcmp .lt x y = true from by simp [xcmp, hc9]] at k9
        exact k9
      · have k9 := kk H locs ls cells slots (by simp) (by simp) hR hS hl
        rw [show xcmp .lt x y = false from by simp [xcmp, hc9]] at k9
        exact k9
    | ge =>
      refine lv_icmp_ge hx hb hdg hoff (fun hc9 => ?_) (fun hc9 => ?_)
      · have k9 := kk H locs ls cells slots (by simp) (by simp) hR hS hl
        rw [show xcmp .ge x y = true from by simp [xcmp, hc9]] at k9
        exact k9
      · have k9 := kk H locs ls cells slots (by simp) (by simp) hR hS hl
        rw [show xcmp .ge x y = false from by simp [xcmp, hc9]] at k9
        exact k9
    | gt =>
      refine lv_icmp_gt hx hb hdg hoff (fun hc9 => ?_) (fun hc9 => ?_)
      · have k9 := kk H locs ls cells slots (by simp) (by simp) hR hS hl
        rw [show xcmp .gt x y = true from by simp [xcmp, hc9]] at k9
        exact k9
      · have k9 := kk H locs ls cells slots (by simp) (by simp) hR hS hl
        rw [show xcmp .gt x y = false from by simp [xcmp, hc9]] at k9
        exact k9
    | le =>
      refine lv_icmp_le hx hb hdg hoff (fun hc9 => ?_) (fun hc9 => ?_)
      · have k9 := kk H locs ls cells slots (by simp) (by simp) hR hS hl
        rw [show xcmp .le x y = true from by simp [xcmp, hc9]] at k9
        exact k9
      · have k9 := kk H locs ls cells slots (by simp) (by simp) hR hS hl
        rw [show xcmp .le x y = false from by simp [xcmp, hc9]] at k9
        exact k9
  | ifnull off =>
    rw [hlen] at hdg
    obtain ⟨v, hv, rfl⟩ := Option.map_eq_some_iff.mp h
    obtain ⟨pc1, r⟩ := v
    obtain ⟨t, hoff, hcase⟩ := xnul_inv hv
    rcases hcase with ⟨rfl, e1⟩ | ⟨x, rfl, e1⟩
    · dsimp only at e1; subst e1
      exact lv_ifnullN hx hb hdg hoff (kk H locs ls _ _ (by simp) (by simp) hR hS hl)
    · dsimp only at e1; subst e1
      exact lv_ifnull hx hb hdg (kk H locs ls _ _ (by simp) (by simp) hR hS hl)
  | ifnonnull off =>
    rw [hlen] at hdg
    obtain ⟨v, hv, rfl⟩ := Option.map_eq_some_iff.mp h
    obtain ⟨pc1, r⟩ := v
    obtain ⟨t, hoff, hcase⟩ := xnul_inv hv
    rcases hcase with ⟨rfl, e1⟩ | ⟨x, rfl, e1⟩
    · dsimp only at e1; subst e1
      exact lv_ifnonnullN hx hb hdg (kk H locs ls _ _ (by simp) (by simp) hR hS hl)
    · dsimp only at e1; subst e1
      exact lv_ifnonnull hx hb hdg hoff (kk H locs ls _ _ (by simp) (by simp) hR hS hl)
  | tableswitch d lo hi offs =>
    obtain ⟨v, hv, rfl⟩ := Option.map_eq_some_iff.mp h
    obtain ⟨pc1, r⟩ := v
    obtain ⟨x, rfl, hcase⟩ := xtab_inv hv
    rcases hcase with ⟨hx1, ht⟩ | ⟨hx1, hx2, off, ho, ht⟩
    · exact lv_tableOut hx hb hdg hx1 ht (kk H locs ls _ _ (by simp) (by simp) hR hS hl)
    · exact lv_tableIn hx hb hdg hx1 hx2 ho ht (kk H locs ls _ _ (by simp) (by simp) hR hS hl)
  | lookupswitch d ps =>
    obtain ⟨v, hv, rfl⟩ := Option.map_eq_some_iff.mp h
    obtain ⟨pc1, r⟩ := v
    obtain ⟨x, rfl, hp, ht⟩ := xlook_inv hv
    exact lv_lookup hx hb hdg hp rfl ht (kk H locs ls _ _ (by simp) (by simp) hR hS hl)
  | baload =>
    rw [hlen] at hdg
    obtain ⟨t, ht, rfl⟩ := Option.map_eq_some_iff.mp h
    obtain ⟨i, a, r, n, f, rfl, ha, hi, rfl⟩ := xzald_inv ht
    exact xw_zald hx hb hR ha hi hdg (kk H locs ls _ _ (by simp) (by simp) hR hS hl)
  | laload =>
    rw [hlen] at hdg
    obtain ⟨t, ht, rfl⟩ := Option.map_eq_some_iff.mp h
    obtain ⟨i, a, r, n, f, rfl, ha, hi, rfl⟩ := xlald_inv ht
    exact xw_lald hx hb hR ha hi hdg (kk H locs ls _ _ (by simp) (by simp) hR hS hl)
  | iaload =>
    rw [hlen] at hdg
    obtain ⟨t, ht, rfl⟩ := Option.map_eq_some_iff.mp h
    rcases xiald_inv ht with ⟨i, a, r, n, f, rfl, ha, hi, rfl⟩ | ⟨i, a, r, rfl, hi, rfl⟩
    · exact xw_iald hx hb hR ha hi hdg (kk H locs ls _ _ (by simp) (by simp) hR hS hl)
    · exact va_sld hx hb hX hbl hbA hS (xin_in hi) hdg (kk H locs ls _ _ (by simp) (by simp) hR hS hl)
  | aaload =>
    rw [hlen] at hdg
    obtain ⟨t, ht, rfl⟩ := Option.map_eq_some_iff.mp h
    obtain ⟨i, a, r, C, n, f, rfl, ha, hi, rfl⟩ := xaald_inv ht
    exact xw_aald hx hb hR ha hi hdg (kk H locs ls _ _ (by simp) (by simp) hR hS hl)
  | arraylength =>
    rw [hlen] at hdg
    obtain ⟨t, ht, rfl⟩ := Option.map_eq_some_iff.mp h
    rcases xlen_inv ht with ⟨a, r, ty, x, rfl, ha, rfl⟩ | ⟨a, r, rfl, -, rfl⟩
    · exact xw_alen hx hb hR ha hdg (kk H locs ls _ _ (by simp) (by simp) hR hS hl)
    · exact va_slen hx hb hX hbl hbA hS hdg (kk H locs ls _ _ (by simp) (by simp) hR hS hl)
  | iastore =>
    rw [hlen] at hdg
    obtain ⟨v, hv, rfl⟩ := Option.map_eq_some_iff.mp h
    obtain ⟨r, S1⟩ := v
    obtain ⟨x, i, a, n, f, rfl, ha, hi, e1⟩ := xiast_inv hv
    dsimp only at e1; subst e1
    exact xw_iast hx hb hR hS ha hi hdg (fun H1 locs1 hR1 hS1 => kk H1 locs1 ls _ _ (by simp [xput]) (by simp [xput]) hR1 hS1 hl)
  | bastore =>
    rw [hlen] at hdg
    obtain ⟨v, hv, rfl⟩ := Option.map_eq_some_iff.mp h
    obtain ⟨r, S1⟩ := v
    obtain ⟨x, i, a, n, f, rfl, ha, hi, e1⟩ := xzast_inv hv
    dsimp only at e1; subst e1
    exact xw_zast hx hb hR hS ha hi hdg (fun H1 locs1 hR1 hS1 => kk H1 locs1 ls _ _ (by simp [xput]) (by simp [xput]) hR1 hS1 hl)
  | lastore =>
    rw [hlen] at hdg
    obtain ⟨v, hv, rfl⟩ := Option.map_eq_some_iff.mp h
    obtain ⟨r, S1⟩ := v
    obtain ⟨x, i, a, n, f, rfl, ha, hi, e1⟩ := xlast_inv hv
    dsimp only at e1; subst e1
    exact xw_last hx hb hR hS ha hi hdg (fun H1 locs1 hR1 hS1 => kk H1 locs1 ls _ _ (by simp [xput]) (by simp [xput]) hR1 hS1 hl)
  | aastore =>
    rw [hlen] at hdg
    obtain ⟨v, hv, rfl⟩ := Option.map_eq_some_iff.mp h
    obtain ⟨r, S1⟩ := v
    obtain ⟨v, i, a, rr, n, f, ci, vs, rfl, ha, hv2, hcl, hi, e1⟩ := xaast_inv hv
    dsimp only at e1; subst e1
    exact xw_aast hx hb hR hS ha hv2 hcl hi hdg (fun H1 locs1 hR1 hS1 => kk H1 locs1 ls _ _ (by simp [xput]) (by simp [xput]) hR1 hS1 hl)
  | getfield idx =>
    rw [hlen] at hdg
    obtain ⟨t, ht, rfl⟩ := Option.map_eq_some_iff.mp h
    obtain ⟨a, r, fs, v, rfl, ha, hv, rfl⟩ := xgetf_inv ht
    unfold xok at hok
    dsimp only at hok ha hv
    split at hok
    · rename_i q hq
      simp only [Bool.and_eq_true, decide_eq_true_eq] at hok
      exact xw_get hx hb hts hC hown hR ha hq hok.1 hv (hTT _ _ hok.2) hdg (kk H locs ls _ _ (by simp) (by simp) hR hS hl)
    · cases hok
  | putfield idx =>
    rw [hlen] at hdg
    obtain ⟨v, hv, rfl⟩ := Option.map_eq_some_iff.mp h
    obtain ⟨r, S1⟩ := v
    obtain ⟨v, a, fs, rfl, ha, hk, hn, hf, e1⟩ := xputf_inv hv
    dsimp only at e1 ha hk hn hf; subst e1
    unfold xok at hok
    dsimp only at hok
    split at hok
    · rename_i q hq
      simp only [Bool.and_eq_true, decide_eq_true_eq, Bool.or_eq_true, Bool.not_eq_true'] at hok
      refine xw_put hx hb hts hC hown hR hS ha hq hok.1.1 hk hn hf ?_ (hTT _ _ hok.1.2) hdg (fun H1 locs1 hR1 hS1 => kk H1 locs1 ls _ _ (by simp [xput]) (by simp [xput]) hR1 hS1 hl)
      rcases hok.2 with h9 | h9
      · exact Or.inl h9
      · cases hz : (q.2.1 qb).2.2.2
        · exact Or.inl rfl
        · exact Or.inr ⟨rfl, hini h9.1, h9.2⟩
    · cases hok
  | newarray a =>
    rw [hlen] at hdg
    obtain ⟨v, hv, rfl⟩ := Option.map_eq_some_iff.mp h
    unfold xnewa at hv
    split at hv
    · rename_i n r
      split at hv
      · cases hv
      · rename_i hn
        unfold xok at hok
        dsimp only at hok
        cases a with
        | int =>
          obtain ⟨S1, hw, hq⟩ := Option.map_eq_some_iff.mp hv
          cases hq
          have e0 := (xnew_spec hw).1
          have d1 : S1.1 = S.1 + 1 := by rw [e0]
          have d2 : S1.2.1 = S.2.1 + n.toNatClampNeg := by rw [e0]
          dsimp only at hc hs
          have hcb : componentBytes .int ≤ 8 := by decide +kernel
          have hmul := Nat.mul_le_mul_left n.toNatClampNeg hcb
          have hn2 : ¬ 65536 < n.toNatClampNeg := fun z => hn (Or.inr z)
          exact xw_newa (ty := .int) hx hb (xTq hTT hts hok) rfl hR hS (fun cA => rfl) (fun z => hn (Or.inl z)) (by omega) (by rw [d1] at hc; omega) (by rw [d2] at hs; omega) hw hdg (fun H1 hR1 hS1 => kk H1 locs ls _ _ (by dsimp only; rw [d1]; omega) (by dsimp only; rw [d2]; omega) hR1 hS1 hl)
        | boolean =>
          obtain ⟨S1, hw, hq⟩ := Option.map_eq_some_iff.mp hv
          cases hq
          have e0 := (xnew_spec hw).1
          have d1 : S1.1 = S.1 + 1 := by rw [e0]
          have d2 : S1.2.1 = S.2.1 + n.toNatClampNeg := by rw [e0]
          dsimp only at hc hs
          have hcb : componentBytes .boolean ≤ 8 := by decide +kernel
          have hmul := Nat.mul_le_mul_left n.toNatClampNeg hcb
          have hn2 : ¬ 65536 < n.toNatClampNeg := fun z => hn (Or.inr z)
          exact xw_newa (ty := .boolean) hx hb (xTq hTT hts hok) rfl hR hS (fun cA => rfl) (fun z => hn (Or.inl z)) (by omega) (by rw [d1] at hc; omega) (by rw [d2] at hs; omega) hw hdg (fun H1 hR1 hS1 => kk H1 locs ls _ _ (by dsimp only; rw [d1]; omega) (by dsimp only; rw [d2]; omega) hR1 hS1 hl)
        | long =>
          obtain ⟨S1, hw, hq⟩ := Option.map_eq_some_iff.mp hv
          cases hq
          have e0 := (xnew_spec hw).1
          have d1 : S1.1 = S.1 + 1 := by rw [e0]
          have d2 : S1.2.1 = S.2.1 + n.toNatClampNeg := by rw [e0]
          dsimp only at hc hs
          have hcb : componentBytes .long ≤ 8 := by decide +kernel
          have hmul := Nat.mul_le_mul_left n.toNatClampNeg hcb
          have hn2 : ¬ 65536 < n.toNatClampNeg := fun z => hn (Or.inr z)
          exact xw_newa (ty := .long) hx hb (xTq hTT hts hok) rfl hR hS (fun cA => rfl) (fun z => hn (Or.inl z)) (by omega) (by rw [d1] at hc; omega) (by rw [d2] at hs; omega) hw hdg (fun H1 hR1 hS1 => kk H1 locs ls _ _ (by dsimp only; rw [d1]; omega) (by dsimp only; rw [d2]; omega) hR1 hS1 hl)
        | _ => cases hv
    · cases hv
  | anewarray idx =>
    rw [hlen] at hdg
    unfold xst at h
    dsimp only at h
    split at h
    · rename_i q hq
      obtain ⟨v, hv, rfl⟩ := Option.map_eq_some_iff.mp h
      unfold xok at hok
      dsimp only at hok
      rw [hq] at hok
      simp only [Bool.and_eq_true] at hok
      unfold xnewq at hv
      split at hv
      · rename_i n r
        split at hv
        · cases hv
        · rename_i hn
          obtain ⟨S1, hw, hq2⟩ := Option.map_eq_some_iff.mp hv
          cases hq2
          have e0 := (xnew_spec hw).1
          have d1 : S1.1 = S.1 + 1 := by rw [e0]
          have d2 : S1.2.1 = S.2.1 + n.toNatClampNeg := by rw [e0]
          dsimp only at hc hs
          have hn2 : ¬ 65536 < n.toNatClampNeg := fun z => hn (Or.inr z)
          exact xw_newq hx hb hown (xTq hTT hts hok.1) (xTs hbs hok.2) hR hS (fun z => hn (Or.inl z)) (by omega) (by rw [d1] at hc; omega) (by rw [d2] at hs; omega) hw hdg (fun H1 hR1 hS1 => kk H1 locs ls _ _ (by dsimp only; rw [d1]; omega) (by dsimp only; rw [d2]; omega) hR1 hS1 hl)
      · cases hv
    · cases h
  | new idx =>
    rw [hlen] at hdg
    unfold xst at h
    dsimp only at h
    split at h
    · rename_i q hq
      obtain ⟨S1, hw, rfl⟩ := Option.map_eq_some_iff.mp h
      unfold xok at hok
      dsimp only at hok
      rw [hq] at hok
      simp only [Bool.and_eq_true, decide_eq_true_eq] at hok
      have e0 := (xnew_spec hw).1
      have d1 : S1.1 = S.1 + 1 := by rw [e0]
      have d2 : S1.2.1 = S.2.1 + q.2.2 := by rw [e0]
      dsimp only at hc hs
      exact xw_new hx hb hts hC hown hR hS hq hw (hTT _ _ hok.1.1) (hTT _ _ hok.1.2) (hTT _ _ hok.2) (by rw [d1] at hc; omega) (by rw [d2] at hs; omega) hdg (fun H1 hR1 hS1 => kk H1 locs ls _ _ (by dsimp only; rw [d1]; omega) (by dsimp only; rw [d2]; omega) hR1 hS1 hl)
    · cases h
  | invokespecial idx =>
    rw [hlen] at hdg
    unfold xst at h
    dsimp only at h
    unfold xok at hok
    dsimp only at hok
    split at h
    · rename_i hqa
      rw [if_pos hqa] at hok
      simp only [Bool.and_eq_true] at hok
      obtain ⟨v, hv, rfl⟩ := Option.map_eq_some_iff.mp h
      unfold xsp at hv
      split at hv
      · cases hv
      · rename_i hw
        rw [if_pos rfl] at hv
        split at hv
        · rename_i a r
          cases hv
          have hws : xw r ≤ 16 := by unfold xw at hw ⊢; simp [Value.category] at hw ⊢; omega
          exact W.objInit hx hb hown (xTq hTT hts hok.1.1) (xTq hTT hts hok.1.2) (xTq hTT hts hok.2) rfl (by rw [hml]; exact hl.1) rfl hdg hfr (by rw [cv_sum]; show 2 * 0 + _ + _ ≤ _; omega) (kk H locs ls _ _ (by simp) (by simp) hR hS hl)
        · cases hv
    · cases h
  | invokestatic idx =>
    rw [hlen] at hdg
    unfold xst at h
    dsimp only at h
    unfold xok at hok
    dsimp only at hok
    split at h
    · cases h
    · rename_i hqo
      obtain ⟨v, hv, rfl⟩ := Option.map_eq_some_iff.mp h
      unfold xsp at hv
      split at hv
      · cases hv
      · rename_i hw
        split at hv
        · rename_i h1
          rw [if_pos h1] at hok
          simp only [Bool.and_eq_true] at hok
          obtain ⟨t, ht, e9⟩ := Option.map_eq_some_iff.mp hv
          cases e9
          obtain ⟨x, y, z, r, rfl, hz, rfl⟩ := xii_inv ht
          cases hz
          have hws : xw r ≤ 16 := by unfold xw at hw ⊢; simp [Value.category] at hw ⊢; omega
          exact va_mmax hx hb (by rw [hml]; exact hl.1.symm) hown (xTq hTT hts hok.1.1.1) (xTq hTT hts hok.1.1.2) (xTq hTT hts hok.1.2) (xTq hTT hts hok.2) hfr (by rw [cv_sum]; omega) (by simp at hc; omega) (by simp at hs; omega) hdg (kk H locs ls _ _ (by simp) (by simp) hR hS hl)
        · rename_i h1
          rw [if_neg h1] at hok
          split at hv
          · rename_i h2
            rw [if_pos h2] at hok
            simp only [Bool.and_eq_true] at hok
            obtain ⟨t, ht, e9⟩ := Option.map_eq_some_iff.mp hv
            cases e9
            obtain ⟨x, y, z, r, rfl, hz, rfl⟩ := xii_inv ht
            cases hz
            have hws : xw r ≤ 16 := by unfold xw at hw ⊢; simp [Value.category] at hw ⊢; omega
            exact va_mmin hx hb (by rw [hml]; exact hl.1.symm) hown (xTq hTT hts hok.1.1.1) (xTq hTT hts hok.1.1.2) (xTq hTT hts hok.1.2) (xTq hTT hts hok.2) hfr (by rw [cv_sum]; omega) (by simp at hc; omega) (by simp at hs; omega) hdg (kk H locs ls _ _ (by simp) (by simp) hR hS hl)
          · rename_i h2
            rw [if_neg h2] at hok
            split at hv
            · rename_i h3
              rw [if_pos h3] at hok
              simp only [Bool.and_eq_true] at hok
              obtain ⟨r, S1⟩ := v
              obtain ⟨n, dp, a, sp, a0, n0, n1, f, g, rfl, hq0, hq1, i1, i2, i3, i4, i5, e1⟩ := xcpy_inv hv
              dsimp only at e1; subst e1
              have hws : xw r ≤ 16 := by unfold xw at hw ⊢; simp [Value.category] at hw ⊢; omega
              have h7 : xw r + (nativeFrameWords "java/lang/System" "arraycopy" 5 + 11) ≤ R.locals := by omega
              exact xw_copy hx hb (by rw [hml]; exact hl.1.symm) hown (xTq hTT hts hok.1.1.1) (xTq hTT hts hok.1.1.2) (xTq hTT hts hok.1.2) (xTq hTT hts hok.2) hR hS hq0 hq1 i1 i2 i3 i4 i5 hfr (by rw [cv_sum]; exact h7) hdg (fun H1 locs1 hR1 hS1 => kk H1 locs1 ls _ _ (by simp [xput]) (by simp [xput]) hR1 hS1 hl)
            · cases hv
  | _ => cases h
end XST
