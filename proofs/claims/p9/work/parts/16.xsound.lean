/-! The small machine's runs are the machine's. -/
/-- a call's words and room -/
def xcok (TT : List (List Cond)) (Bs : List Cond) (own host : String) (M N : xM) (idx : Nat) (xi : xI) : Bool :=
  (if xkd N = 3 then decide (Bs[xi.2.2.2.2.2]? = some (Cond.methodLinkNest own idx (xnm N) host)) else decide (xq TT (xi.2.2.2.2.2) = some (Cond.methodLink own idx (xnm N)))) &&
  decide (xfr N + 1 ≤ xfr M) && decide (8 + (xmx N + 11) + xlo N ≤ xlo M) && (decide (xhs N = []) || decide (xkd N = 0))
/-- what a run needs of the program beside the tables: the classes of the exceptions, the classes above them, the handlers' types, the throws' words -/
abbrev xG : Type := (Nat → String) × List String × (Nat → Option Nat) × List (String × Nat × Nat) × String
abbrev xexN (G : xG) : Nat → String := G.1
abbrev xnms (G : xG) : List String := G.2.1
abbrev xck (G : xG) : Nat → Option Nat := G.2.2.1
abbrev xths (G : xG) : List (String × Nat × Nat) := G.2.2.2.1
abbrev xhost (G : xG) : String := G.2.2.2.2
/-- a throw's words, room and instructions -/
def xtok (G : xG) (E : xE) (TT : List (List Cond)) (M : xM) (pc idx : Nat) (xi : xI) : Bool :=
  decide (xq TT (xi.2.2.2.2.2) = some (Cond.classLink (xnm M).cls idx (xexN G (xi.2.2.1 - 1000)))) && decide (xq TT (xi.2.2.2.2.2 + 1) = some (Cond.initialized (xexN G (xi.2.2.1 - 1000)))) &&
  decide (((xnm M).cls, xi.2.2.2.2.1.toNat, xi.2.2.1 - 1000) ∈ xths G) && E.1.any (fun q => decide (q.1 = (xnm M).cls) && decide (q.2.1 = xi.2.2.2.1)) &&
  decide ((xnms G).length + 3 < xfr M) && decide (8 + (13 * ((xnms G).length + 1) + 43) ≤ xlo M) &&
  decide (decode (xbc M) (pc + 3) = .ok (.dup, 1)) &&
  ((decide (decode (xbc M) (pc + 4) = .ok (.ldc xi.2.2.2.1, 2)) && decide (decode (xbc M) (pc + 6) = .ok (.invokespecial xi.2.2.2.2.1.toNat, 3)) && decide (decode (xbc M) (pc + 9) = .ok (.athrow, 1))) ||
   (decide (decode (xbc M) (pc + 4) = .ok (.ldc_w xi.2.2.2.1, 3)) && decide (decode (xbc M) (pc + 7) = .ok (.invokespecial xi.2.2.2.2.1.toNat, 3)) && decide (decode (xbc M) (pc + 10) = .ok (.athrow, 1))))
def xokc (G : xG) (E : xE) (TT : List (List Cond)) (prog : List xM) (M : xM) (pc : Nat) (xi : xI) : Bool := match xi.1 with
  | .invokestatic idx => (match prog[xi.2.2.1]? with
    | some N => xcok TT E.2.1 (xnm M).cls (xhost G) M N idx xi
    | none => true)
  | .invokevirtual idx => (match prog[xi.2.2.1]? with
    | some N => xcok TT E.2.1 (xnm M).cls (xhost G) M N idx xi
    | none => true)
  | .invokespecial idx => (match prog[xi.2.2.1]? with
    | some N => xcok TT E.2.1 (xnm M).cls (xhost G) M N idx xi
    | none => true)
  | .new idx => if 1000 ≤ xi.2.2.1 then xtok G E TT M pc idx xi else true
  | _ => true
/-- a method's own words and numbers -/
def xmok (cl : List vw_C) (TT : List (List Cond)) (N : xM) : Bool :=
  plainFor (xnm N) && decide ((xnm N).cls ≠ "java/lang/invoke/MethodHandle") && decide ((xnm N).cls ≠ "java/lang/invoke/VarHandle") &&
  (decide (xkd N = 9) || decide (xq TT (xwp N) = some (if xkd N = 0 then Cond.static (xnm N) else Cond.instanceMethod (xnm N)))) && (decide (xkd N = 9) || decide (xq TT (xwp N + 1) = some (Cond.initialized (xnm N).cls))) &&
  (if xkd N = 9 then true else if xkd N = 0 then decide ((parseMethodDescriptor (xnm N).desc).map (fun d => d.parameters.length) = some (xna N)) else decide (1 ≤ xna N) && decide ((parseMethodDescriptor (xnm N).desc).map (fun d => d.parameters.length) = some (xna N - 1))) &&
  (if xkd N = 1 then decide (xq TT (xwp N + 2) = some (Cond.selects (xnm N).cls (xnm N) (xnm N))) && decide ((cl[xcn N]?).map (fun q => q.1) = some (xnm N).cls) else true) &&
  (if xkd N = 2 ∨ xkd N = 3 then decide ((xnm N).name = "<init>") && decide (xrt N = none) else true) && decide (1 ≤ xfr N) && decide (16 + 12 + (nativeFrameWords "java/lang/System" "arraycopy" 5 + 11) ≤ xlo N)
/-- the program is as the small machine takes it -/
def xPg (cl : List vw_C) (fty : Nat → Nat → FieldType) (fdef : Nat → List Value) (G : xG) (E : xE) (TT : List (List Cond)) (Ts : List Cond) (prog : List xM) : Prop :=
  xCls cl fty fdef Ts ∧ Ts.all goodWord = true ∧ (∀ w ∈ E.2.1, xBw w = true) ∧ (∀ M ∈ prog, xmok cl TT M = true) ∧
  (∀ M ∈ prog, ∀ (pc : Nat) (xi : xI), (xcd M)[pc]? = some (some xi) → decode (xbc M) pc = .ok (xi.1, xi.2.1) ∧ xok cl TT E.2.1 (xnm M).cls (decide (xkd M = 2 ∨ xkd M = 3)) xi = true ∧ xokc G E TT prog M pc xi = true) ∧
  (∀ q ∈ xths G, Bundle.fit (xexN G q.2.2) = true ∧ (∀ n ∈ xnms G, Bundle.fit n = true) ∧ (∀ w ∈ vx_atS q.1 q.2.1 (xexN G q.2.2) (xnms G), (w ∈ Ts ∨ w ∈ E.2.1) ∧ vx_ot w = true)) ∧
  (∀ M ∈ prog, ∀ h ∈ xhs M, h.2.2.2 ≠ 0 ∧ ∃ (k : Nat) (nm : String), xck G h.2.2.2 = some k ∧ Cond.classLink (xnm M).cls h.2.2.2 nm ∈ Ts ∧ Cond.castable (xexN G k) nm ∈ E.2.1 ∧ ∀ k2 : Nat, k2 < 3 → k2 ≠ k → (xexN G k2, nm) ∈ E.2.2) ∧
  (∀ M ∈ prog, xkd M ≠ 9 → xcw M ∈ Ts) ∧ (∀ (j : Nat) (w : Cond), xq TT j = some w → w ∈ Ts)
section XSD
variable {p : Program} {l : Launch} {e : Env} {R : Room} {s : State} {m : MethodId} {args : Array Value} {below : List Frame} {meth : Method} {c : Code} {H : Heap} {locs : List Loc} {cells slots : Nat} {Q : State → Prop}
variable {sc : xSc} {pc : Nat} {ls : Array Slot} {D : va_G} {cl : List vw_C} {cT : FieldType → ClassId} {bs : xB} {H0 : Heap} {fty : Nat → Nat → FieldType} {fdef : Nat → List Value} {TT : List (List Cond)} {Ts : List Cond} {G : xG} {E : xE} {prog : List xM} {M N : xM}
/-- the end of a body -/
def xEnd (G : xG) (D : va_G) (cl : List vw_C) (cT : FieldType → ClassId) (bs : xB) (below : List Frame) (args : Array Value) (s : State) (o : xO) (S' : xS) (mc ms : Nat) : State → Prop := match o with
  | .inl v => MQ below (xQr D cl cT bs v S') args s mc ms (fun q => bs.1 ≤ q)
  | .inr k => vx_MQ below xNo (xQx (xexN G) D cl cT bs k S') args s mc ms (fun q => bs.1 ≤ q)
theorem xgood (hG : Ts.all goodWord = true) (hc : xcw N ∈ Ts) : GoodIn Ts (xcw N :: Ts) := by
  refine goodIn_sub (fun w hw => ?_) ?_
  · rcases List.mem_cons.mp hw with rfl | h
    · exact hc
    · exact h
  · rw [List.all_cons, hG, Bool.and_true]
    exact List.all_eq_true.mp hG _ hc
theorem xrev {st : List Value} {n : Nat} {bs : xB} (h : n ≤ st.length) : (st.map (cv bs)) = ((st.take n).reverse.map (cv bs)).reverse ++ (st.drop n).map (cv bs) := by
  rw [List.map_reverse, List.reverse_reverse, ← List.map_append, List.take_append_drop]
/-- a call, whatever comes of it -/
theorem xw_call (hP : xPg cl fty fdef G E TT Ts prog) (hM : M ∈ prog) (C : xCx cl fty fdef TT Ts E.2.1 (xnm M).cls (decide (xkd M = 2 ∨ xkd M = 3)) (xbc M) (xmx M) p R s m args meth c) (hRf : xfr M ≤ R.frames) (hRl : xlo M ≤ R.locals)
    {xi : xI} (hat : (xcd M)[pc]? = some (some xi)) (hlen : xi.2.1 = xlenOf xi.1 xi.2.1) {st vs r : List Value} {S S1 : xS} (hcal : xcal prog xi st S = some (vs, r)) {o : xO} (hno : xisp xi.1 = true ∨ xcH prog xi = false → ∀ k, o ≠ .inr k)
    (hX : ∀ N : xM, prog[xi.2.2.1]? = some N → xMt sc E (xexN G) Ts l D cl cT bs N vs S o S1) (hR : xR D cl cT s bs S H) (hT : xTh sc E bs s s.heap) (hS : va_S (fun q => bs.1 ≤ q) s.heap H locs) (hl : ls.size = xmx M) (hc : cells + (S1.1 - S.1) ≤ R.cells) (hs : slots + (S1.2.1 - S.2.1) ≤ R.slots)
    (kr : ∀ (v : Option Value) (H1 : Heap) (locs1 : List Loc), o = .inl v → xR D cl cT s bs S1 H1 → va_S (fun q => bs.1 ≤ q) s.heap H1 locs1 → W p l e R s m args below meth c H1 locs1 (cells + (S1.1 - S.1)) (slots + (S1.2.1 - S.2.1)) Q (F0 m (pc + 3) ls ((v.toList ++ r).map (cv bs))))
    (kx : ∀ (k : Nat) (H1 : Heap) (locs1 : List Loc) (q : Addr) (ce : Cell), o = .inr k → xR D cl cT s bs S1 H1 → va_S (fun q => bs.1 ≤ q) s.heap H1 locs1 → H1[q]? = some ce → ce.vm = .none → s.vm.findClass (xexN G k) = some ce.cls → vx_W p l e R s m args below meth c H1 locs1 (cells + (S1.1 - S.1)) (slots + (S1.2.1 - S.2.1)) Q (F0 m pc ls (r.map (cv bs))) q) :
    W p l e R s m args below meth c H locs cells slots Q (F0 m pc ls (st.map (cv bs))) := by
  obtain ⟨hx, hb, hml, hown, hts, hbs, hC, hini, -, -⟩ := C
  obtain ⟨-, hgw, hbw, hmok, hins, -, -, hcws, hTT⟩ := hP
  obtain ⟨hdg, -, hokc⟩ := hins M hM pc xi hat
  unfold xcal at hcal
  split at hcal
  · rename_i N hN
    have hMt := hX N hN
    have hNok := hmok N (List.mem_of_getElem? hN)
    unfold xmok at hNok
    simp only [Bool.and_eq_true, decide_eq_true_eq] at hNok
    obtain ⟨⟨⟨⟨⟨⟨⟨⟨⟨n1, n2⟩, n3⟩, n4⟩, n5⟩, n7⟩, n8⟩, n9⟩, -⟩, -⟩ := hNok
    unfold xargs at hcal
    split at hcal
    · rename_i hna
      have k9 : ¬ xkd N = 9 := by omega
      simp only [Bool.or_eq_true, decide_eq_true_eq, k9, false_or, if_false] at n4 n5 n7
      have hcw : xcw N ∈ Ts := hcws N (List.mem_of_getElem? hN) k9
      have hini' : (Cond.initialized (xnm N).cls).before args s = true := hts _ (hTT _ _ n5)
      have hkd := hts _ (hTT _ _ n4)
      have hgi : GoodIn Ts (xcw N :: Ts) := xgood hgw hcw
      have hst := xrev (bs := bs) hna.1
      have hblind := xPc_blind (sc := sc) (E := E) hbw (D := D) (cl := cl) (cT := cT) (bs := bs) (vs := vs) (S := S)
      have hpre : ∀ U : State, U.heap = H → s.WarmedH U.vm → xPc sc E D cl cT bs vs S (vs.map (cv bs)).toArray U := fun U hU hW =>
        ⟨rfl, by rw [hU]; exact hR.moved hW.alike, by rw [hU]; exact (hT.kept hS.2.1).moved hbw hW⟩
      have hrw : (((r.map (cv bs)).map fun v => v.category).sum) = xw r := cv_sum bs r
      split at hcal
      · -- static
        rename_i idx hi
        split at hcal
        · rename_i hk
          cases hcal
          have hcx : xcok TT E.2.1 (xnm M).cls (xhost G) M N idx xi = true := by
            unfold xokc at hokc
            rw [hi] at hokc
            dsimp only at hokc
            rw [hN] at hokc
            exact hokc
          unfold xcok at hcx
          simp only [Bool.and_eq_true, decide_eq_true_eq] at hcx
          obtain ⟨⟨⟨x1, x2⟩, x3⟩, x4⟩ := hcx
          have hroom : (xrm N S S1).frames + 1 ≤ R.frames ∧ 8 + (xmx N + 11) + (xrm N S S1).locals ≤ R.locals := ⟨Nat.le_trans x2 hRf, Nat.le_trans x3 hRl⟩
          rw [hi] at hlen hdg
          rw [if_neg (by rw [hk]; decide)] at x1
          rw [if_pos hk] at n7 hkd
          have n7 := of_decide_eq_true n7
          rw [show xi.2.1 = 3 from hlen] at hdg
          have hlnk := hts _ (hTT _ _ (of_decide_eq_true x1))
          have hlenA : ((st.take (xna N)).reverse.map (cv bs)).length = xna N := by rw [List.length_map, List.length_reverse, List.length_take]; omega
          by_cases hh : xhs N = []
          · have hcode : xcw N = Cond.code (xnm N) (xbc N) (xmx N) (xrt N) := by unfold xcw; rw [hh]
            have hCB : CallB R s args (xnm M).cls idx (xnm N) (xbc N) (xmx N) (xrt N) (xcw N :: Ts) (xrm N S S1) (S1.1 - S.1) (S1.2.1 - S.2.1) (xna N) :=
              callB_of (xna N) hts hgi (by rw [hcode]) rfl rfl hini' hlnk ⟨n2, n3, n7⟩ hroom
            cases o with
            | inl v =>
              refine xw_ret (va_runS (As := (st.take (xna N)).reverse.map (cv bs)) (rest := (st.drop (xna N)).map (cv bs)) ⟨hx, hb, hml, hown, hts⟩ hMt ⟨hCB, hkd⟩ ⟨hblind, hpre⟩ rfl hlenA hl hst (lv_room (by rw [hrw]; exact hna.2.1)) hdg ⟨hc, hs⟩) hS (fun H1 locs1 hR1 hS1 => ?_)
              have := kr v H1 locs1 rfl hR1 hS1
              rw [List.map_append] at this
              cases v <;> exact this
            | inr k =>
              exact xw_thr (vx_runS (As := (st.take (xna N)).reverse.map (cv bs)) (rest := (st.drop (xna N)).map (cv bs)) ⟨hx, hb, hml, hown, hts⟩ hMt ⟨hCB, hkd⟩ ⟨hblind, hpre⟩ rfl hlenA hl hst (lv_room (by rw [hrw]; exact hna.2.1)) hdg ⟨hc, hs⟩) hS (fun H1 locs1 q ce hR1 hS1 h1 h2 h3 => kx k H1 locs1 q ce rfl hR1 hS1 h1 h2 h3)
          · have hcode : xcw N = Cond.codeWith (xnm N) (xbc N) (xmx N) (xrt N) (xhs N) := by
              unfold xcw
              split
              · rename_i h9; exact absurd h9 hh
              · rfl
            cases o with
            | inl v =>
              have hCW : vx_CSW R s args (xnm M).cls idx (xnm N) (xbc N) (xmx N) (xrt N) (xhs N) (xcw N :: Ts) (xrm N S S1) (S1.1 - S.1) (S1.2.1 - S.2.1) (xna N) :=
                ⟨⟨rfl, rfl, hroom.1, hroom.2, pay_in hts hgi, by rw [← hcode]; exact List.mem_cons_self⟩, by rw [← hcode]; exact hts _ hcw, hini', ⟨n2, n3⟩, fun sig h9 => by rw [h9] at n7; exact (Option.some.inj n7).symm, hlnk, hkd⟩
              refine xw_ret (vx_runSW (hh := xhs N) (As := (st.take (xna N)).reverse.map (cv bs)) (rest := (st.drop (xna N)).map (cv bs)) ⟨hx, hb, hml, hown, hts⟩ hMt hCW ⟨hblind, hpre⟩ rfl hlenA hl hst (lv_room (by rw [hrw]; exact hna.2.1)) hdg ⟨hc, hs⟩) hS (fun H1 locs1 hR1 hS1 => ?_)
              have := kr v H1 locs1 rfl hR1 hS1
              rw [List.map_append] at this
              cases v <;> exact this
            | inr k => exact absurd rfl (hno (Or.inr (by unfold xcH; rw [hN]; exact decide_eq_false hh)) k)
        · cases hcal
      · -- virtual
        rename_i idx hi
        split at hcal
        · rename_i hk
          cases hcal
          have hcx : xcok TT E.2.1 (xnm M).cls (xhost G) M N idx xi = true := by
            unfold xokc at hokc
            rw [hi] at hokc
            dsimp only at hokc
            rw [hN] at hokc
            exact hokc
          unfold xcok at hcx
          simp only [Bool.and_eq_true, decide_eq_true_eq] at hcx
          obtain ⟨⟨⟨x1, x2⟩, x3⟩, x4⟩ := hcx
          have hroom : (xrm N S S1).frames + 1 ≤ R.frames ∧ 8 + (xmx N + 11) + (xrm N S S1).locals ≤ R.locals := ⟨Nat.le_trans x2 hRf, Nat.le_trans x3 hRl⟩
          have x4 : xhs N = [] := by
            simp only [Bool.or_eq_true, decide_eq_true_eq] at x4
            rcases x4 with h | h
            · exact h
            · exact absurd h (by rw [hk.1]; decide)
          have hcode : xcw N = Cond.code (xnm N) (xbc N) (xmx N) (xrt N) := by unfold xcw; rw [x4]
          rw [hi] at hlen hdg
          rw [if_neg (by rw [hk.1]; decide)] at x1
          rw [if_neg (by rw [hk.1]; decide)] at n7 hkd
          rw [if_pos hk.1] at n8
          simp only [Bool.and_eq_true, decide_eq_true_eq] at n7 n8
          rw [show xi.2.1 = 3 from hlen] at hdg
          have hCB : CallB R s args (xnm M).cls idx (xnm N) (xbc N) (xmx N) (xrt N) (xcw N :: Ts) (xrm N S S1) (S1.1 - S.1) (S1.2.1 - S.2.1) (xna N - 1) :=
            callB_of (xna N - 1) hts hgi (by rw [hcode]) rfl rfl hini' (hts _ (hTT _ _ (of_decide_eq_true x1))) ⟨n2, n3, n7.2⟩ hroom
          have hsel := hts _ (hTT _ _ n8.1)
          have hrv := hk.2
          have hlt : ((st.take (xna N)).reverse).length = xna N := by rw [List.length_reverse, List.length_take]; omega
          generalize hvs : (st.take (xna N)).reverse = vs at hst hblind hpre hMt hrv hlt ⊢
          unfold xrcv at hrv
          split at hrv
          · rename_i b As
            split at hrv
            · rename_i cj fs hxb
              have hcj := of_decide_eq_true hrv
              subst hcj
              obtain ⟨r9, hr9, cell, g1, g2, g3, -⟩ := hR.2.2.2 b _ hxb
              have hq9 : r9.1 = (xnm N).cls := by
                have := n8.2
                rw [hr9] at this
                simpa using this
              have hcls : s.vm.findClass (xnm N).cls = some cell.cls := by rw [← hq9, g2]; exact (hR.2.1.1 _ r9 hr9).2.1
              have hst2 : st.map (cv bs) = (As.map (cv bs)).reverse ++ .ref (bs.1 + b) :: (st.drop (xna N)).map (cv bs) := by
                rw [hst, List.map_cons, List.reverse_cons, List.append_assoc]
                rfl
              have hla : (As.map (cv bs)).length = xna N - 1 := by
                rw [List.length_cons] at hlt
                rw [List.length_map]
                omega
              have hpv : PreV s H (xnm N).cls (bs.1 + b) (xPc sc E D cl cT bs (.ref b :: As) S) (As.map (cv bs)) := ⟨hblind, ⟨cell, g1, by rw [g3]; rfl, hcls⟩, hpre⟩
              cases o with
              | inl v =>
                refine xw_ret (va_runV (C := (xnm N).cls) (b := bs.1 + b) (As := As.map (cv bs)) (rest := (st.drop (xna N)).map (cv bs)) ⟨hx, hb, hml, hown, hts⟩ hMt ⟨hCB, hkd, hsel⟩ hpv rfl hla hl hst2 (lv_room (by rw [hrw]; exact hna.2.1)) hdg ⟨hc, hs⟩) hS (fun H1 locs1 hR1 hS1 => ?_)
                have := kr v H1 locs1 rfl hR1 hS1
                rw [List.map_append] at this
                cases v <;> exact this
              | inr k =>
                exact xw_thr (vx_runV (C := (xnm N).cls) (b := bs.1 + b) (As := As.map (cv bs)) (rest := (st.drop (xna N)).map (cv bs)) ⟨hx, hb, hml, hown, hts⟩ hMt ⟨hCB, hkd, hsel⟩ hpv rfl hla hl hst2 (lv_room (by rw [hrw]; exact hna.2.1)) hdg ⟨hc, hs⟩) hS (fun H1 locs1 q ce hR1 hS1 h1 h2 h3 => kx k H1 locs1 q ce rfl hR1 hS1 h1 h2 h3)
            · cases hrv
          · cases hrv
        · cases hcal
      · -- a constructor
        rename_i idx hi
        split at hcal
        · rename_i hk
          cases hcal
          have hcx : xcok TT E.2.1 (xnm M).cls (xhost G) M N idx xi = true := by
            unfold xokc at hokc
            rw [hi] at hokc
            dsimp only at hokc
            rw [hN] at hokc
            exact hokc
          unfold xcok at hcx
          simp only [Bool.and_eq_true, decide_eq_true_eq] at hcx
          obtain ⟨⟨⟨x1, x2⟩, x3⟩, x4⟩ := hcx
          have hroom : (xrm N S S1).frames + 1 ≤ R.frames ∧ 8 + (xmx N + 11) + (xrm N S S1).locals ≤ R.locals := ⟨Nat.le_trans x2 hRf, Nat.le_trans x3 hRl⟩
          have x4 : xhs N = [] := by
            simp only [Bool.or_eq_true, decide_eq_true_eq] at x4
            rcases x4 with h | h
            · exact h
            · rcases hk.1 with h9 | h9 <;> exact absurd h (by rw [h9]; decide)
          have hcode : xcw N = Cond.code (xnm N) (xbc N) (xmx N) (xrt N) := by unfold xcw; rw [x4]
          rw [hi] at hlen hdg
          have hk0 : ¬ xkd N = 0 := by rcases hk.1 with h | h <;> rw [h] <;> decide
          have hk2 : 2 ≤ xkd N := by rcases hk.1 with h | h <;> rw [h] <;> decide
          rw [if_neg hk0] at n7 hkd
          rw [if_pos hk.1] at n9
          simp only [Bool.and_eq_true, decide_eq_true_eq] at n7 n9
          rw [show xi.2.1 = 3 from hlen] at hdg
          have hrv := hk.2
          have hlt : ((st.take (xna N)).reverse).length = xna N := by rw [List.length_reverse, List.length_take]; omega
          generalize hvs : (st.take (xna N)).reverse = vs at hst hblind hpre hMt hrv hlt ⊢
          unfold xrf1 at hrv
          split at hrv
          · rename_i b As
            have hst2 : st.map (cv bs) = (As.map (cv bs)).reverse ++ .ref (bs.1 + b) :: (st.drop (xna N)).map (cv bs) := by
              rw [hst, List.map_cons, List.reverse_cons, List.append_assoc]
              rfl
            have hla : (As.map (cv bs)).length = xna N - 1 := by
              rw [List.length_cons] at hlt
              rw [List.length_map]
              omega
            have hcode0 : xcw N = Cond.code (xnm N) (xbc N) (xmx N) none := by rw [hcode, n9.2]
            have hps : PreS s H (xPc sc E D cl cT bs (.ref b :: As) S) (.ref (bs.1 + b) :: As.map (cv bs)) := ⟨hblind, hpre⟩
            cases o with
            | inl v =>
              have run : va_Run p l e R s m args below meth c H locs cells slots (S1.1 - S.1) (S1.2.1 - S.2.1) (F0 m pc ls (st.map (cv bs))) ((st.drop (xna N)).map (cv bs)) (xQr D cl cT bs v S1 (Value.ref (bs.1 + b) :: As.map (cv bs)).toArray) (fun q => bs.1 ≤ q) := by
                by_cases h3 : xkd N = 3
                · rw [if_pos h3] at x1
                  have hnest := hbs _ (List.mem_of_getElem? (of_decide_eq_true x1))
                  exact va_runIN (b := bs.1 + b) (As := As.map (cv bs)) ⟨hx, hb, hml, hown, hts⟩ hMt ⟨va_cnB (xna N - 1) hts hgi (by rw [hcode0]) rfl rfl (va_Nw.of rfl hnest) hini' ⟨n2, n3, n7.2⟩ hroom, n9.1, hkd⟩ hps rfl hla hl hst2 (lv_room (by rw [hrw]; exact hna.2.1)) hdg ⟨hc, hs⟩
                · rw [if_neg h3] at x1
                  exact va_runI (b := bs.1 + b) (As := As.map (cv bs)) ⟨hx, hb, hml, hown, hts⟩ hMt ⟨callB_of (xna N - 1) hts hgi (by rw [hcode0]) rfl rfl hini' (hts _ (hTT _ _ (of_decide_eq_true x1))) ⟨n2, n3, n7.2⟩ hroom, n9.1, hkd⟩ hps rfl hla hl hst2 (lv_room (by rw [hrw]; exact hna.2.1)) hdg ⟨hc, hs⟩
              refine xw_ret run hS (fun H1 locs1 hR1 hS1 => ?_)
              have := kr v H1 locs1 rfl hR1 hS1
              rw [List.map_append] at this
              cases v <;> exact this
            | inr k => exact absurd rfl (hno (Or.inl (by rw [hi]; rfl)) k)
          · cases hrv
        · cases hcal
      · cases hcal
    · cases hcal
  · cases hcal
end XSD
