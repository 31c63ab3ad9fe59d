/-! Whole methods of the small machine: a run of a body over what its callees answer; then the callees by depth. -/
/-- a method: (name, bytes, locals, answer), (how many arguments, the receiver counts; 0 static 1 virtual 2 constructor 3 a nest mate's constructor; its class's number; its words' place), (frames, words of locals), its instructions by pc, its handlers -/
abbrev xM : Type := (MethodName × ByteArray × Nat × Option FieldType) × (Nat × Nat × Nat × Nat) × (Nat × Nat) × List (Option xI) × List (Nat × Nat × Nat × Nat)
abbrev xnm (M : xM) : MethodName := M.1.1
abbrev xbc (M : xM) : ByteArray := M.1.2.1
abbrev xmx (M : xM) : Nat := M.1.2.2.1
abbrev xrt (M : xM) : Option FieldType := M.1.2.2.2
abbrev xna (M : xM) : Nat := M.2.1.1
abbrev xkd (M : xM) : Nat := M.2.1.2.1
abbrev xcn (M : xM) : Nat := M.2.1.2.2.1
abbrev xwp (M : xM) : Nat := M.2.1.2.2.2
abbrev xfr (M : xM) : Nat := M.2.2.1.1
abbrev xlo (M : xM) : Nat := M.2.2.1.2
abbrev xcd (M : xM) : List (Option xI) := M.2.2.2.1
abbrev xhs (M : xM) : List (Nat × Nat × Nat × Nat) := M.2.2.2.2
def xcw (M : xM) : Cond := match xhs M with
  | [] => .code (xnm M) (xbc M) (xmx M) (xrt M)
  | _ => .codeWith (xnm M) (xbc M) (xmx M) (xrt M) (xhs M)
/-- an answer -/
def xend (M : xM) (i : Instr) (st : List Value) : Option (Option Value) := match i with
  | .ireturn => (match st, xrt M with
    | [.int v], some ty => if xfit ty (.int v) = true then some (some (.int v)) else none
    | _, _ => none)
  | .lreturn => (match st, xrt M with
    | [.long v], some .long => some (some (.long v))
    | _, _ => none)
  | .areturn => (match st, xrt M with
    | [.ref a], some (.object _) => some (some (.ref a))
    | [.null], some (.object _) => some (some .null)
    | _, _ => none)
  | .return_ => (match st, xrt M with
    | [], none => some none
    | _, _ => none)
  | _ => none
/-- the receiver, of the class that the method is of -/
def xrcv (S : xS) (ci : Nat) (vs : List Value) : Bool := match vs with
  | .ref b :: _ => (match xat S b with
    | some (.inr (some (cj, _))) => decide (cj = ci)
    | _ => false)
  | _ => false
def xrf1 (vs : List Value) : Bool := match vs with
  | .ref _ :: _ => true
  | _ => false
/-- the arguments of a call, and what lies below them -/
def xargs (N : xM) (i : Instr) (st : List Value) (S : xS) : Option (List Value × List Value) :=
  if xna N ≤ st.length ∧ xw (st.drop (xna N)) ≤ 8 ∧ xkd N ≤ 3 then
    (match i with
    | .invokestatic _ => if xkd N = 0 then some ((st.take (xna N)).reverse, st.drop (xna N)) else none
    | .invokevirtual _ => if xkd N = 1 ∧ xrcv S (xcn N) (st.take (xna N)).reverse = true then some ((st.take (xna N)).reverse, st.drop (xna N)) else none
    | .invokespecial _ => if (xkd N = 2 ∨ xkd N = 3) ∧ xrf1 (st.take (xna N)).reverse = true then some ((st.take (xna N)).reverse, st.drop (xna N)) else none
    | _ => none)
  else none
def xcal (prog : List xM) (xi : xI) (st : List Value) (S : xS) : Option (List Value × List Value) := match prog[xi.2.2.1]? with
  | some N => xargs N xi.1 st S
  | none => none
/-- 'throw new' of a kind of exception -/
def xthr (M : xM) (xi : xI) (st : List Value) (S : xS) : Option (Nat × xS) := match xi.1 with
  | .new _ => if 1000 ≤ xi.2.2.1 ∧ xw st ≤ 8 ∧ xhs M = [] then (xnew S (.inr none) 6).map fun S' => (xi.2.2.1 - 1000, S') else none
  | _ => none
/-- the handler that takes a kind of exception -/
def xhand (ck : Nat → Option Nat) : List (Nat × Nat × Nat × Nat) → Nat → Nat → Option Nat
  | [], _, _ => none
  | (a, b, h, t) :: r, pc, k => if a ≤ pc ∧ pc < b ∧ ck t = some k ∧ k < 3 then some h else xhand ck r pc k
def xfil (L : xL) (i : Nat) : xL := L.filter (fun q => !(q.1 == i) && !(q.1 + 1 == i && q.2.category == 2))
/-- the handler's first instruction lays the exception into a local: behind it nothing is known of that local -/
def xhp (M : xM) (hp : Nat) (L : xL) : Option (Nat × xL) := match (xcd M)[hp]? with
  | some (some xi) => if xi.2.1 = xlenOf xi.1 xi.2.1 then (match xi.1 with
    | .astore i => if i < xmx M then some (hp + 2, xfil L i) else none
    | .astore_n i => if i.val < xmx M then some (hp + 1, xfil L i.val) else none
    | _ => none) else none
  | _ => none
/-- the callee has no handlers of its own -/
def xcH (prog : List xM) (xi : xI) : Bool := match prog[xi.2.2.1]? with
  | some N => decide (xhs N = [])
  | none => false
def xisp : Instr → Bool
  | .invokespecial _ => true
  | _ => false
def xrun (sc : xSc) (cl : List vw_C) (fty : Nat → Nat → FieldType) (fdef : Nat → List Value) (ck : Nat → Option Nat) (prog : List xM) (M : xM) (ex : Nat → List Value → xS → Option (xO × xS)) : Nat → Nat → xL → List Value → xS → Option (xO × xS)
  | 0, _, _, _, _ => none
  | f + 1, pc, L, st, S => match (xcd M)[pc]? with
    | some (some xi) =>
      if xi.2.1 = xlenOf xi.1 xi.2.1 then
        match xend M xi.1 st with
        | some v => some (.inl v, S)
        | none => match xcal prog xi st S with
          | some (vs, r) => (match ex xi.2.2.1 vs S with
            | some (.inl v, S1) => xrun sc cl fty fdef ck prog M ex f (pc + 3) L (v.toList ++ r) S1
            | some (.inr k, S1) => if xisp xi.1 = true ∨ xcH prog xi = false then none else (match xhs M with
              | [] => some (.inr k, S1)
              | _ => (match xhand ck (xhs M) pc k with
                | some hp => (match xhp M hp L with
                  | some (pc', L') => xrun sc cl fty fdef ck prog M ex f pc' L' [] S1
                  | none => none)
                | none => none))
            | none => none)
          | none => (match xthr M xi st S with
            | some (k, S1) => some (.inr k, S1)
            | none => (match xst sc cl fty fdef (xmx M) xi pc L st S with
              | some (pc', L', st', S') => xrun sc cl fty fdef ck prog M ex f pc' L' st' S'
              | none => none))
      else none
    | _ => none
def xsl (vs : List Value) : Nat := xw vs
/-- a method, its callees by depth -/
def xex (sc : xSc) (cl : List vw_C) (fty : Nat → Nat → FieldType) (fdef : Nat → List Value) (ck : Nat → Option Nat) (prog : List xM) : Nat → Nat → Nat → List Value → xS → Option (xO × xS)
  | 0, _, _, _, _ => none
  | d + 1, F, a, vs, S => match prog[a]? with
    | some M => if xw vs ≤ xmx M then xrun sc cl fty fdef ck prog M (xex sc cl fty fdef ck prog d F) F 0 (lv_args 0 vs) [] S else none
    | none => none
/-! What a method's run says of the machine -/
/-- words that go along with the tables as they warm, though not every list may hold them -/
def xBw : Cond → Bool
  | .arrayOver (.object _) => true
  | .declares _ => true
  | .castable _ _ => true
  | .methodLinkNest _ _ _ _ => true
  | _ => false
theorem xBw_use {w : Cond} (hw : xBw w = true) {A : Array Value} {U : State} (h : va_Nw w U) : w.before A U = true := by
  unfold xBw at hw
  split at hw
  · exact va_AO.use h
  · exact va_Nw.use rfl h
  · exact va_Nw.use rfl h
  · exact va_Nw.use rfl h
  · cases hw
theorem xBw_warm {w : Cond} (hw : xBw w = true) {s U : State} (hW : s.WarmedH U.vm) (h : va_Nw w s) : va_Nw w U := by
  unfold xBw at hw
  split at hw
  · exact va_AO.moved hW.alike h
  · exact va_Nw.warmD hW h
  · exact va_Nw.warmC hW h
  · exact va_Nw.warmM hW h
  · cases hw
/-- what must be there for a throw, a catch and other links, besides the words -/
abbrev xE : Type := List (String × Nat × String) × List Cond × List (String × String)
def xTh (sc : xSc) (E : xE) (bs : xB) (U : State) (H : Heap) : Prop := (va_X bs.2 (sc.1 - 1) sc.2 U H ∧ bs.2 < bs.1) ∧ vx_Zq Bundle.tN "UNASSIGNED_STACK" Bundle.steD (fun q => bs.1 ≤ q) U H ∧ vx_Zq Bundle.tN "SUPPRESSED_SENTINEL" Bundle.listD (fun q => bs.1 ≤ q) U H ∧ (∀ q ∈ E.1, ∃ sa : Nat, vk_R q.1 q.2.1 q.2.2 sa U) ∧ (∀ w ∈ E.2.1, va_Nw w U) ∧ ∀ q ∈ E.2.2, va_Nc q.1 q.2 U
theorem xTh.moved {sc : xSc} {E : xE} (hE : ∀ w ∈ E.2.1, xBw w = true) {bs : xB} {s U : State} {H : Heap} (hW : s.WarmedH U.vm) (h : xTh sc E bs s H) : xTh sc E bs U H :=
  ⟨⟨h.1.1.moved hW.alike, h.1.2⟩, vx_Zq.moved hW.alike h.2.1, vx_Zq.moved hW.alike h.2.2.1, fun q hq => by obtain ⟨sa, z⟩ := h.2.2.2.1 q hq; exact ⟨sa, vk_R.warm hW z⟩, fun w hw => xBw_warm (hE w hw) hW (h.2.2.2.2.1 w hw), fun q hq => (h.2.2.2.2.2 q hq).moved hW.alike⟩
theorem xTh.kept {sc : xSc} {E : xE} {bs : xB} {s : State} {H H1 : Heap} (h : xTh sc E bs s H) (hq : ∀ a : Nat, a < H.size → ¬ bs.1 ≤ a → H1[a]? = H[a]?) : xTh sc E bs s H1 := by
  refine ⟨⟨?_, h.1.2⟩, h.2.1.kept hq, h.2.2.1.kept hq, h.2.2.2⟩
  obtain ⟨scr, h1, h2⟩ := id h.1.1
  exact h.1.1.kept (hq _ (Array.getElem?_eq_some_iff.mp h1).1 (Nat.not_le.mpr h.1.2))
def xPc (sc : xSc) (E : xE) (D : va_G) (cl : List vw_C) (cT : FieldType → ClassId) (bs : xB) (vs : List Value) (S : xS) : Array Value → State → Prop := va_Pc (vs.map (cv bs)) (fun U => xR D cl cT U bs S U.heap ∧ xTh sc E bs U U.heap)
def xQr (D : va_G) (cl : List vw_C) (cT : FieldType → ClassId) (bs : xB) (v : Option Value) (S : xS) : Array Value → State → Outcome → State → Prop := fun _ st oc t => oc = .returned (v.map (cv bs)) ∧ xR D cl cT t bs S t.heap ∧ va_F (fun q => bs.1 ≤ q) st t
def xQx (exN : Nat → String) (D : va_G) (cl : List vw_C) (cT : FieldType → ClassId) (bs : xB) (k : Nat) (S : xS) : String → State → State → Prop := fun E st t => E = exN k ∧ xR D cl cT t bs S t.heap ∧ va_F (fun q => bs.1 ≤ q) st t
def xNo : Array Value → State → Outcome → State → Prop := fun _ _ _ _ => False
def xrm (M : xM) (S S' : xS) : Room := { frames := xfr M, cells := S'.1 - S.1, slots := S'.2.1 - S.2.1, locals := xlo M }
/-- the contract of one run -/
def xMt (sc : xSc) (E : xE) (exN : Nat → String) (Ts : List Cond) (l : Launch) (D : va_G) (cl : List vw_C) (cT : FieldType → ClassId) (bs : xB) (M : xM) (vs : List Value) (S : xS) (o : xO) (S' : xS) : Prop := match o with
  | .inl v => Met l (xnm M) (xcw M :: Ts) (xrm M S S') (xPc sc E D cl cT bs vs S) (xQr D cl cT bs v S') (S'.1 - S.1) (S'.2.1 - S.2.1) (fun q => bs.1 ≤ q)
  | .inr k => vx_Met l (xnm M) (xcw M :: Ts) (xrm M S S') (xPc sc E D cl cT bs vs S) xNo (xQx exN D cl cT bs k S') (S'.1 - S.1) (S'.2.1 - S.2.1) (fun q => bs.1 ≤ q)
theorem xPc_blind {sc : xSc} {E : xE} (hE : ∀ w ∈ E.2.1, xBw w = true) {D : va_G} {cl : List vw_C} {cT : FieldType → ClassId} {bs : xB} {vs : List Value} {S : xS} : FrameBlind (xPc sc E D cl cT bs vs S) := by
  intro a U g mk q
  obtain ⟨q0, q1, q2⟩ := q
  exact ⟨q0, xR.moved (s := U) (U := U.calling g mk a) (Vm.Alike.refl U.vm) q1, xTh.moved (U := U.calling g mk a) hE (State.WarmedH.refl U) q2⟩
section XCL
variable {p : Program} {l : Launch} {e : Env} {R : Room} {s : State} {m : MethodId} {args : Array Value} {below : List Frame} {meth : Method} {c : Code} {H : Heap} {locs : List Loc} {cells slots mc ms : Nat} {Q : State → Prop}
variable {cc : ByteArray} {pc : Nat} {ls : Array Slot} {st0 rest : List Value} {D : va_G} {cl : List vw_C} {cT : FieldType → ClassId} {bs : xB} {S : xS} {H0 : Heap} {a : Array Value}
theorem xw_ret {v : Option Value} (hr : va_Run p l e R s m args below meth c H locs cells slots mc ms (F0 m pc ls st0) rest (xQr D cl cT bs v S a) (fun q => bs.1 ≤ q)) (hS : va_S (fun q => bs.1 ≤ q) H0 H locs)
    (kk : ∀ (H1 : Heap) (locs1 : List Loc), xR D cl cT s bs S H1 → va_S (fun q => bs.1 ≤ q) H0 H1 locs1 → W p l e R s m args below meth c H1 locs1 (cells + mc) (slots + ms) Q (F0 m (pc + 3) ls ((v.map (cv bs)).toList ++ rest))) : W p l e R s m args below meth c H locs cells slots Q (F0 m pc ls st0) := by
  intro T hT X
  obtain ⟨v', st₀, t, T', L, h0, X', hL, e1, e2, ⟨hv, hR', hF⟩, st⟩ := hr T hT X
  cases hv
  obtain ⟨k1, k2, k3⟩ := vx_keep h0 e1 hS (fun q _ h => h) (fun q h => h) hL hF
  have hal : s.vm.Alike t.vm := by rw [← e2]; exact X'.warmed.alike
  obtain ⟨t2, a1, b1⟩ := kk T'.heap (locs ++ L) (by rw [e1]; exact hR'.moved hal.symm) k3 T' rfl X'
  exact ⟨t2, st t2 a1, b1⟩
theorem xw_thr {exN : Nat → String} {k : Nat} (hr : vx_Run p l e R s m args below meth c H locs cells slots mc ms (F0 m pc ls st0) rest (xNo a) (xQx exN D cl cT bs k S) (fun q => bs.1 ≤ q)) (hS : va_S (fun q => bs.1 ≤ q) H0 H locs)
    (kx : ∀ (H1 : Heap) (locs1 : List Loc) (q : Addr) (ce : Cell), xR D cl cT s bs S H1 → va_S (fun q => bs.1 ≤ q) H0 H1 locs1 → H1[q]? = some ce → ce.vm = .none → s.vm.findClass (exN k) = some ce.cls → vx_W p l e R s m args below meth c H1 locs1 (cells + mc) (slots + ms) Q (F0 m pc ls rest) q) : W p l e R s m args below meth c H locs cells slots Q (F0 m pc ls st0) := by
  intro T hT X
  rcases hr T hT X with ⟨v, st₀, t, T', L, h0, X', hL, e1, e2, hno, st⟩ | ⟨q, st₀, t, T', L, E, ce, h0, X', hL, e1, e2, ⟨hE, hR', hF⟩, hce, hcv, hcl, st⟩
  · exact hno.elim
  · subst hE
    obtain ⟨k1, k2, k3⟩ := vx_keep h0 e1 hS (fun q _ h => h) (fun q h => h) hL hF
    have hal : s.vm.Alike t.vm := by rw [← e2]; exact X'.warmed.alike
    obtain ⟨t2, a1, b1⟩ := kx T'.heap (locs ++ L) q ce (by rw [e1]; exact hR'.moved hal.symm) k3 (by rw [e1]; exact hce) hcv hcl T' rfl X'
    exact ⟨t2, st.trans a1, b1⟩
end XCL
