/-! The methods by depth. -/
theorem lv_args_cv (bs : xB) (vs : List Value) : ∀ i : Nat, lv_args i (vs.map (cv bs)) = cL bs (lv_args i vs) := by
  induction vs with
  | nil => intro i; rfl
  | cons v vs ih =>
    intro i
    simp only [List.map_cons, lv_args, cv_cat, cL]
    rw [ih]
    rfl
theorem xsl_len (bs : xB) (vs : List Value) : (lg_sl (vs.map (cv bs))).length = xw vs := by
  induction vs with
  | nil => rfl
  | cons v vs ih =>
    unfold lg_sl at ih ⊢
    unfold xw at ih ⊢
    rw [List.map_cons, List.flatMap_cons, List.length_append, ih, List.map_cons, List.sum_cons, cv_cat]
    rcases lv_cat v with h | h <;> simp [h]
theorem xrun_inr {sc : xSc} {cl : List vw_C} {fty : Nat → Nat → FieldType} {fdef : Nat → List Value} {ck : Nat → Option Nat} {prog : List xM} {M : xM} {ex : Nat → List Value → xS → Option (xO × xS)} {k : Nat} {S' : xS} :
    ∀ (f pc : Nat) (L : xL) (st : List Value) (S : xS), xrun sc cl fty fdef ck prog M ex f pc L st S = some (.inr k, S') → xhs M = [] := by
  intro f
  induction f with
  | zero => intro pc L st S h; cases h
  | succ f ih =>
    intro pc L st S h
    unfold xrun at h
    split at h
    · split at h
      · split at h
        · cases h
        · split at h
          · split at h
            · exact ih _ _ _ _ h
            · split at h
              · cases h
              · split at h
                · assumption
                · split at h
                  · split at h
                    · exact ih _ _ _ _ h
                    · cases h
                  · cases h
            · cases h
          · split at h
            · rename_i ht
              exact (xthr_spec ht).2.2.2.2.1
            · split at h
              · exact ih _ _ _ _ h
              · cases h
      · cases h
    · cases h
/-! A body's contract, where the method's name has no row among the natives (Math.floorMod). -/
section XOF
variable {l : Launch} {y : MethodName} {ws ws' : List Cond} {rm : Room} {Pc : Array Value → State → Prop} {Qc : Array Value → State → Outcome → State → Prop} {mc ms : Nat} {free : Addr → Prop} {cc : ByteArray} {maxL : Nat} {ret : Option FieldType}
theorem xof1 (hy : plainFor y = true) (hw : ws = Cond.code y cc maxL ret :: ws')
    (body : ∀ p e s m args below meth c s₁, BodyLoose p l y (headSpec ws rm) cc maxL ret e s m args below meth c s₁ → c.maxLocals = maxL → Pc args s →
      W p l e (headSpec ws rm).room s m args below meth c s.heap [] 0 0 (MQ below Qc args s mc ms free) (entryFrame m args maxL)) : Met l y ws rm Pc Qc mc ms free := by
  refine MetFree.of_bodySF (code := cc) (maxLocals := maxL) (ret := ret) hy (fun args s m h hn => ?_) (fun p e s m args below meth c s₁ B hml hP _ => ?_)
  · obtain ⟨meth, c, h1, h2, h3, h4, h5, h6, _, _⟩ := Cond.code_spec hn (atoms_spec (ws := ws) h _ (by rw [hw]; exact List.mem_cons_self))
    exact ⟨meth, c, h1, h2, h3, h4, h5, h6⟩
  · obtain ⟨t, a1, o, b1, b2, b3⟩ := body p e s m args below meth c s₁ B hml hP s₁ (by rw [B.state]; rfl) (Stand.of_body B)
    exact ⟨t, o, a1, b1, b2, ⟨b3.1, b3.2⟩⟩
theorem xof2 {hh : List (Nat × Nat × Nat × Nat)} (hy : plainFor y = true) (hw : ws = Cond.codeWith y cc maxL ret hh :: ws')
    (body : ∀ p e s m args below meth c s₁, BodyLoose p l y (headSpec ws rm) cc maxL ret e s m args below meth c s₁ → c.maxLocals = maxL → Pc args s →
      W p l e (headSpec ws rm).room s m args below meth c s.heap [] 0 0 (MQ below Qc args s mc ms free) (entryFrame m args maxL)) : Met l y ws rm Pc Qc mc ms free := by
  refine MetFree.of_bodySF (code := cc) (maxLocals := maxL) (ret := ret) hy (fun args s m h hn => ?_) (fun p e s m args below meth c s₁ B hml hP _ => ?_)
  · obtain ⟨m9, meth, c, hn9, h1, h2, h3, h4, _, h5, h6, _⟩ := Cond.codeWith_spec (atoms_spec (ws := ws) h _ (by rw [hw]; exact List.mem_cons_self))
    cases hn.symm.trans hn9
    exact ⟨meth, c, h1, h2, h3, h4, h5, h6⟩
  · obtain ⟨t, a1, o, b1, b2, b3⟩ := body p e s m args below meth c s₁ B hml hP s₁ (by rw [B.state]; rfl) (Stand.of_body B)
    exact ⟨t, o, a1, b1, b2, ⟨b3.1, b3.2⟩⟩
theorem xof3 {XC : String → State → State → Prop} (hy : plainFor y = true) (hw : ws = Cond.code y cc maxL ret :: ws')
    (body : ∀ p e s m args below meth c s₁, BodyLoose p l y (headSpec ws rm) cc maxL ret e s m args below meth c s₁ → c.maxLocals = maxL → Pc args s →
      W p l e (headSpec ws rm).room s m args below meth c s.heap [] 0 0 (vx_MQ below Qc XC args s mc ms free) (entryFrame m args maxL)) : vx_Met l y ws rm Pc Qc XC mc ms free := by
  refine MetFree.of_bodySF (code := cc) (maxLocals := maxL) (ret := ret) hy (fun args s m h hn => ?_) (fun p e s m args below meth c s₁ B hml hP _ => ?_)
  · obtain ⟨meth, c, h1, h2, h3, h4, h5, h6, _, _⟩ := Cond.code_spec hn (atoms_spec (ws := ws) h _ (by rw [hw]; exact List.mem_cons_self))
    exact ⟨meth, c, h1, h2, h3, h4, h5, h6⟩
  · obtain ⟨t, a1, o, b1, b2, b3⟩ := body p e s m args below meth c s₁ B hml hP s₁ (by rw [B.state]; rfl) (Stand.of_body B)
    exact ⟨t, o, a1, b1, b2, b3⟩
end XOF
section XME
variable {sc : xSc} {l : Launch} {D : va_G} {cl : List vw_C} {cT : FieldType → ClassId} {bs : xB} {fty : Nat → Nat → FieldType} {fdef : Nat → List Value} {TT : List (List Cond)} {Ts : List Cond} {G : xG} {E : xE} {prog : List xM}
set_option maxHeartbeats 1000000 in
theorem xex_sound (hP : xPg cl fty fdef G E TT Ts prog) (hnt : l.stackTraces = false) (F : Nat) :
    ∀ (d a : Nat) (M : xM) (vs : List Value) (S : xS) (o : xO) (S' : xS), prog[a]? = some M → xex sc cl fty fdef (xck G) prog d F a vs S = some (o, S') → xMt sc E (xexN G) Ts l D cl cT bs M vs S o S' := by
  intro d
  induction d with
  | zero => intro a M vs S o S' _ h; cases h
  | succ d ih =>
    intro a M vs S o S' hN h
    have hM : M ∈ prog := List.mem_of_getElem? hN
    have hmok := hP.2.2.2.1 M hM
    unfold xmok at hmok
    simp only [Bool.and_eq_true, decide_eq_true_eq] at hmok
    obtain ⟨⟨⟨⟨⟨⟨⟨⟨⟨n1, n2⟩, n3⟩, n4⟩, n5⟩, n7⟩, n8⟩, n9⟩, n10⟩, n11⟩ := hmok
    unfold xex at h
    rw [hN] at h
    dsimp only at h
    split at h
    · rename_i hsl
      have body : ∀ (p : Program) (e : Env) (s : State) (m : MethodId) (args : Array Value) (below : List Frame) (meth : Method) (c : Code) (s₁ : State), BodyLoose p l (xnm M) (headSpec (xcw M :: Ts) (xrm M S S')) (xbc M) (xmx M) (xrt M) e s m args below meth c s₁ → c.maxLocals = xmx M → c.exceptionTable.toList = tableOf (xhs M) → xPc sc E D cl cT bs vs S args s →
          W p l e (headSpec (xcw M :: Ts) (xrm M S S')).room s m args below meth c s.heap [] 0 0 (xEnd G D cl cT bs below args s o S' (S'.1 - S.1) (S'.2.1 - S.2.1)) (entryFrame m args (xmx M)) := by
        intro p e s m args below meth c s₁ B hml htab hv
        obtain ⟨rfl, hR, hT⟩ := hv
        have hts : ∀ w ∈ Ts, w.before (vs.map (cv bs)).toArray s = true := fun w hw => atoms_spec (ws := xcw M :: Ts) B.pre w (List.mem_cons_of_mem _ hw)
        have hbs : ∀ w ∈ E.2.1, w.before (vs.map (cv bs)).toArray s = true := fun w hw => xBw_use (hP.2.2.1 w hw) (hT.2.2.2.2.1 w hw)
        have hC : xCx cl fty fdef TT Ts E.2.1 (xnm M).cls (decide (xkd M = 2 ∨ xkd M = 3)) (xbc M) (xmx M) p (headSpec (xcw M :: Ts) (xrm M S S')).room s m (vs.map (cv bs)).toArray meth c :=
          ⟨B.exec, B.bytes, hml, findClass_of_methodNamed B.named, hts, hbs, hP.1, fun hd => by
            have h2 := of_decide_eq_true hd
            rw [if_pos h2] at n9
            simp only [Bool.and_eq_true, decide_eq_true_eq] at n9
            exact (name_of_methodNamed B.named B.method).1.trans n9.1, n10, n11, hP.2.2.2.2.2.2.2.2⟩
        have hl := lv_entry (vs.map (cv bs)) (n := xmx M) (by rw [xsl_len]; exact hsl)
        rw [lg_entry_eq]
        generalize (lg_sl (vs.map (cv bs)) ++ List.replicate (xmx M - (lg_sl (vs.map (cv bs))).length) Slot.unset).toArray = ls at hl ⊢
        rw [lv_args_cv] at hl
        have := xrun_sound (e := e) (below := below) (R := (headSpec (xcw M :: Ts) (xrm M S S')).room) hP hM hC (Nat.le_refl _) (Nat.le_refl _) B.returns B.notSynchronized htab hnt hT (Nat.lt_of_lt_of_le hT.1.2 (by rw [hR.1]; exact Nat.le_add_right _ _)) (xex_mono (F := F) d) (fun a N vs S o S1 hN he => ih a N vs S o S1 hN he) F 0 _ [] S o S' h s.heap [] ls 0 0 hR va_S.rf hl (by rw [Nat.zero_add]; exact Nat.le_refl _) (by rw [Nat.zero_add]; exact Nat.le_refl _)
        rw [Nat.zero_add, Nat.zero_add] at this
        exact this
      have tab0 : ∀ {p : Program} {e : Env} {s : State} {m : MethodId} {args : Array Value} {below : List Frame} {meth : Method} {c : Code} {s₁ : State}, xhs M = [] → BodyLoose p l (xnm M) (headSpec (xcw M :: Ts) (xrm M S S')) (xbc M) (xmx M) (xrt M) e s m args below meth c s₁ → c.exceptionTable.toList = tableOf (xhs M) := by
        intro p e s m args below meth c s₁ hh B
        have hw : (Cond.code (xnm M) (xbc M) (xmx M) (xrt M)).before args s = true := by
          have := atoms_spec (ws := xcw M :: Ts) B.pre _ List.mem_cons_self
          unfold xcw at this
          rw [hh] at this
          exact this
        have h9 := B.noHandlers hw
        rw [hh, Array.isEmpty_iff.mp h9]
        rfl
      cases o with
      | inl v =>
        by_cases hh : xhs M = []
        · exact xof1 (cc := xbc M) (maxL := xmx M) (ret := xrt M) n1 (by unfold xcw; rw [hh]) (fun p e s m args below meth c s₁ B hml hv => body p e s m args below meth c s₁ B hml (tab0 hh B) hv)
        · have hcw : xcw M = Cond.codeWith (xnm M) (xbc M) (xmx M) (xrt M) (xhs M) := by
            unfold xcw
            split
            · rename_i h9; exact absurd h9 hh
            · rfl
          exact xof2 (cc := xbc M) (maxL := xmx M) (ret := xrt M) (hh := xhs M) n1 (by rw [hcw]) (fun p e s m args below meth c s₁ B hml hv => body p e s m args below meth c s₁ B hml (vx_table (x := xnm M) B (by rw [← hcw]; exact atoms_spec (ws := xcw M :: Ts) B.pre _ List.mem_cons_self)) hv)
      | inr k =>
        have hh := xrun_inr _ _ _ _ _ h
        exact xof3 (cc := xbc M) (maxL := xmx M) (ret := xrt M) n1 (by unfold xcw; rw [hh]) (fun p e s m args below meth c s₁ B hml hv => body p e s m args below meth c s₁ B hml (tab0 hh B) hv)
    · cases h
end XME
