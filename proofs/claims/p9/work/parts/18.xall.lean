/-! A body's run, then a method's. -/
section XAL
variable {p : Program} {l : Launch} {e : Env} {R : Room} {s : State} {m : MethodId} {args : Array Value} {below : List Frame} {meth : Method} {c : Code} {H : Heap} {locs : List Loc} {cells slots : Nat} {Q : State → Prop}
variable {sc : xSc} {pc : Nat} {ls : Array Slot} {D : va_G} {cl : List vw_C} {cT : FieldType → ClassId} {bs : xB} {fty : Nat → Nat → FieldType} {fdef : Nat → List Value} {TT : List (List Cond)} {Ts : List Cond} {G : xG} {E : xE} {prog : List xM} {M : xM}
theorem xhand_spec {ck : Nat → Option Nat} {pc k hp : Nat} : ∀ {hs : List (Nat × Nat × Nat × Nat)}, xhand ck hs pc k = some hp → ∃ pre x suf, hs = pre ++ x :: suf ∧ x.2.2.1 = hp ∧ x.1 ≤ pc ∧ pc < x.2.1 ∧ ck x.2.2.2 = some k ∧ k < 3 ∧ ∀ z ∈ pre, ¬ (z.1 ≤ pc ∧ pc < z.2.1) ∨ ck z.2.2.2 ≠ some k := by
  intro hs
  induction hs with
  | nil => intro h; cases h
  | cons q r ih =>
    obtain ⟨a, b, h0, t⟩ := q
    intro h
    unfold xhand at h
    split at h
    · rename_i hc
      cases h
      exact ⟨[], (a, b, hp, t), r, rfl, rfl, hc.1, hc.2.1, hc.2.2.1, hc.2.2.2, fun z hz => by cases hz⟩
    · rename_i hc
      obtain ⟨pre, x, suf, e1, e2, e3, e4, e5, e6, e7⟩ := ih h
      refine ⟨(a, b, h0, t) :: pre, x, suf, by rw [e1]; rfl, e2, e3, e4, e5, e6, fun z hz => ?_⟩
      rcases List.mem_cons.mp hz with rfl | hz
      · by_cases h9 : a ≤ pc ∧ pc < b
        · exact Or.inr (fun h8 => hc ⟨h9.1, h9.2, h8, e6⟩)
        · exact Or.inl h9
      · exact e7 z hz
theorem cL_fil (bs : xB) (L : xL) (i : Nat) : (cL bs L).filter (fun q => !(q.1 == i) && !(q.1 + 1 == i && q.2.category == 2)) = cL bs (xfil L i) := by
  unfold xfil cL
  rw [List.filter_map]
  congr 1
  apply List.filter_congr
  intro q _
  simp [cv_cat]
set_option maxHeartbeats 1000000 in
/-- from a handler's pc, the exception on the stack -/
theorem xw_hp (hP : xPg cl fty fdef G E TT Ts prog) (hM : M ∈ prog) (C : xCx cl fty fdef TT Ts E.2.1 (xnm M).cls (decide (xkd M = 2 ∨ xkd M = 3)) (xbc M) (xmx M) p R s m args meth c) {hp pc' : Nat} {L L' : xL} (h : xhp M hp L = some (pc', L')) {q : Addr} (hl : lv_has ls (xmx M) (cL bs L))
    (kk : ∀ ls1 : Array Slot, lv_has ls1 (xmx M) (cL bs L') → W p l e R s m args below meth c H locs cells slots Q (F0 m pc' ls1 [])) : W p l e R s m args below meth c H locs cells slots Q (F0 m hp ls [.ref q]) := by
  obtain ⟨hx, hb, -⟩ := C
  obtain ⟨-, -, -, -, hins, -⟩ := hP
  unfold xhp at h
  split at h
  · rename_i xi hat
    obtain ⟨hdg, -, -⟩ := hins M hM hp xi hat
    split at h
    · rename_i hlen
      rw [hlen] at hdg
      split at h
      · rename_i i hi
        rw [hi] at hdg
        split at h
        · rename_i hlt
          cases h
          exact lv_astore hx hb hdg hl hlt rfl (fun ls1 hl1 => kk ls1 ⟨hl1.1, hl1.2.1, fun z hz => hl1.2.2 z (List.mem_cons_of_mem _ (by rw [cL_fil]; exact hz))⟩)
        · cases h
      · rename_i i hi
        rw [hi] at hdg
        split at h
        · rename_i hlt
          cases h
          exact lv_astore_n hx hb hdg rfl hl hlt rfl (fun ls1 hl1 => kk ls1 ⟨hl1.1, hl1.2.1, fun z hz => hl1.2.2 z (List.mem_cons_of_mem _ (by rw [cL_fil]; exact hz))⟩)
        · cases h
      · cases h
    · cases h
  · cases h
set_option maxHeartbeats 4000000 in
theorem xrun_sound (hP : xPg cl fty fdef G E TT Ts prog) (hM : M ∈ prog) (C : xCx cl fty fdef TT Ts E.2.1 (xnm M).cls (decide (xkd M = 2 ∨ xkd M = 3)) (xbc M) (xmx M) p R s m args meth c) (hRf : xfr M ≤ R.frames) (hRl : xlo M ≤ R.locals)
    (hr : meth.sig.returnType = xrt M) (hlocks : meth.locks = false) (htab : c.exceptionTable.toList = tableOf (xhs M)) (hnt : l.stackTraces = false) (hT : xTh sc E bs s s.heap) (hbz : bs.2 < s.heap.size) {ex : Nat → List Value → xS → Option (xO × xS)}
    (hexm : ∀ a vs S o S1, ex a vs S = some (o, S1) → S.1 ≤ S1.1 ∧ S.2.1 ≤ S1.2.1) (hex : ∀ (a : Nat) (N : xM) (vs : List Value) (S : xS) (o : xO) (S1 : xS), prog[a]? = some N → ex a vs S = some (o, S1) → xMt sc E (xexN G) Ts l D cl cT bs N vs S o S1) :
    ∀ (f pc : Nat) (L : xL) (st : List Value) (S : xS) (o : xO) (S' : xS), xrun sc cl fty fdef (xck G) prog M ex f pc L st S = some (o, S') → ∀ (H : Heap) (locs : List Loc) (ls : Array Slot) (cells slots : Nat), xR D cl cT s bs S H → va_S (fun q => bs.1 ≤ q) s.heap H locs → lv_has ls (xmx M) (cL bs L) →
      cells + (S'.1 - S.1) ≤ R.cells → slots + (S'.2.1 - S.2.1) ≤ R.slots → W p l e R s m args below meth c H locs cells slots (xEnd G D cl cT bs below args s o S' (cells + (S'.1 - S.1)) (slots + (S'.2.1 - S.2.1))) (F0 m pc ls (st.map (cv bs))) := by
  have hx := C.1
  have hb := C.2.1
  have hown := C.2.2.2.1
  have hts := C.2.2.2.2.1
  have hbs := C.2.2.2.2.2.1
  intro f
  induction f with
  | zero => intro pc L st S o S' h; cases h
  | succ f ih =>
    intro pc L st S o S' h H locs ls cells slots hR hS hl hc hs
    unfold xrun at h
    split at h
    · rename_i xi hat
      obtain ⟨hdg, hok, hokc⟩ := hP.2.2.2.2.1 M hM pc xi hat
      split at h
      · rename_i hlen
        split at h
        · -- an answer
          rename_i v hv
          cases h
          rw [Nat.sub_self, Nat.sub_self, Nat.add_zero, Nat.add_zero]
          rw [hlen] at hdg
          have hq : ∀ t : State, t.heap = H → s.WarmedH t.vm → xQr D cl cT bs v S args s (.returned (v.map (cv bs))) t := fun t ht hW => ⟨rfl, by rw [ht]; exact hR.moved hW.alike, hS.F ht⟩
          unfold xend at hv
          split at hv
          · rename_i hi
            rw [hi] at hdg
            split at hv
            · rename_i z ty hty
              split at hv
              · rename_i hfit
                cases hv
                exact W.zret hx hb (hr.trans hty) (xfit_ok hfit).1 hq hS.2.2 hdg hlocks
              · cases hv
            · cases hv
          · rename_i hi
            rw [hi] at hdg
            split at hv
            · rename_i z hty
              cases hv
              exact W.lret hx hb (hr.trans hty) hq hS.2.2 hdg hlocks
            · cases hv
          · rename_i hi
            rw [hi] at hdg
            split at hv
            · rename_i a C hty
              cases hv
              exact W.aret hx hb (hr.trans hty) (Or.inl ⟨_, rfl⟩) (Or.inr ⟨_, rfl⟩) hq hS.2.2 hdg hlocks
            · rename_i C hty
              cases hv
              exact W.aret hx hb (hr.trans hty) (Or.inl ⟨_, rfl⟩) (Or.inl rfl) hq hS.2.2 hdg hlocks
            · cases hv
          · rename_i hi
            rw [hi] at hdg
            split at hv
            · rename_i hty
              cases hv
              exact W.vret hx hb (hr.trans hty) hq hS.2.2 hdg hlocks
            · cases hv
          · cases hv
        · split at h
          · -- a call
            rename_i vs r hcal
            split at h
            · rename_i v S1 he
              have m1 := hexm _ _ _ _ _ he
              have m2 := xrun_mono hexm f _ _ _ _ _ _ h
              refine xw_call hP hM C hRf hRl hat hlen hcal (o := .inl v) (fun _ k z => by cases z) (fun N hN => hex _ N _ _ _ _ hN he) hR hT hS hl.1 (by omega) (by omega) (fun v' H1 locs1 hv' hR1 hS1 => ?_) (fun k _ _ _ _ hk => by cases hk)
              cases hv'
              have := ih _ _ _ _ _ _ h H1 locs1 ls (cells + (S1.1 - S.1)) (slots + (S1.2.1 - S.2.1)) hR1 hS1 hl (by omega) (by omega)
              rw [show cells + (S1.1 - S.1) + (S'.1 - S1.1) = cells + (S'.1 - S.1) by omega, show slots + (S1.2.1 - S.2.1) + (S'.2.1 - S1.2.1) = slots + (S'.2.1 - S.2.1) by omega] at this
              exact this
            · rename_i k S1 he
              have m1 := hexm _ _ _ _ _ he
              split at h
              · cases h
              · rename_i hsp
                split at h
                · -- it goes on to the caller
                  rename_i hhs
                  cases h
                  refine xw_call hP hM C hRf hRl hat hlen hcal (o := .inr k) (fun z => absurd z hsp) (fun N hN => hex _ N _ _ _ _ hN he) hR hT hS hl.1 hc hs (fun v' _ _ hv' => by cases hv') (fun k' H1 locs1 q ce hk hR1 hS1 h1 h2 h3 => ?_)
                  cases hk
                  refine vx_out (E := xexN G k) (fun z hz => ?_) hlocks h1 h2 h3 (fun t ht hA => ⟨rfl, by rw [ht]; exact hR1.moved hA, hS1.F ht⟩) hS1.2.2 (Nat.le_refl _) (Nat.le_refl _)
                  rw [htab, hhs] at hz
                  cases hz
                · split at h
                  · rename_i hp hh
                    split at h
                    · rename_i pc' L' hhp
                      have m2 := xrun_mono hexm f _ _ _ _ _ _ h
                      refine xw_call hP hM C hRf hRl hat hlen hcal (o := .inr k) (fun z => absurd z hsp) (fun N hN => hex _ N _ _ _ _ hN he) hR hT hS hl.1 (by omega) (by omega) (fun v' _ _ hv' => by cases hv') (fun k' H1 locs1 q ce hk hR1 hS1 h1 h2 h3 => ?_)
                      cases hk
                      obtain ⟨pre, x, suf, e1, e2, e3, e4, e5, e6, e7⟩ := xhand_spec hh
                      have hH := hP.2.2.2.2.2.2.1 M hM
                      obtain ⟨c0, k1, nm, g1, g2, g3, -⟩ := hH x (by rw [e1]; exact List.mem_append_right _ List.mem_cons_self)
                      cases Option.some.inj (g1.symm.trans e5)
                      refine xg_catch (own := (xnm M).cls) (name := nm) (E := xexN G k) hown (tableOf pre) ⟨x.1, x.2.1, x.2.2.1, x.2.2.2⟩ (tableOf suf) (by rw [htab, e1]; simp [tableOf]) (fun z hz => ?_) (by simp [covers, e3, e4]) c0 (hts _ g2) (hbs _ g3) h1 h2 h3 ?_
                      · obtain ⟨y, hy, rfl⟩ := List.mem_map.mp hz
                        obtain ⟨d0, k2, nm2, f1, f2, -, f4⟩ := hH y (by rw [e1]; exact List.mem_append_left _ hy)
                        rcases e7 y hy with h9 | h9
                        · left
                          simp only [covers, Bool.and_eq_false_iff, decide_eq_false_iff_not]
                          by_cases h8 : y.1 ≤ pc
                          · exact Or.inr (fun h7 => h9 ⟨h8, h7⟩)
                          · exact Or.inl h8
                        · right
                          refine ⟨d0, nm2, hts _ f2, hT.2.2.2.2.2 _ (f4 k e6 (fun hkk => h9 (by rw [f1, hkk])))⟩
                      · show W p l e R s m args below meth c H1 locs1 _ _ _ (F0 m x.2.2.1 ls [.ref q])
                        rw [e2]
                        refine xw_hp hP hM C hhp hl (fun ls1 hl1 => ?_)
                        have := ih _ _ _ _ _ _ h H1 locs1 ls1 (cells + (S1.1 - S.1)) (slots + (S1.2.1 - S.2.1)) hR1 hS1 hl1 (by omega) (by omega)
                        rw [show cells + (S1.1 - S.1) + (S'.1 - S1.1) = cells + (S'.1 - S.1) by omega, show slots + (S1.2.1 - S.2.1) + (S'.2.1 - S1.2.1) = slots + (S'.2.1 - S.2.1) by omega] at this
                        exact this
                    · cases h
                  · cases h
            · cases h
          · split at h
            · -- a throw
              rename_i k S1 ht
              cases h
              obtain ⟨⟨idx, hi⟩, t1, t2, t3, t4, hw⟩ := xthr_spec ht
              have e0 := (xnew_spec hw).1
              have d1 : S'.1 = S.1 + 1 := by rw [e0]
              have d2 : S'.2.1 = S.2.1 + 6 := by rw [e0]
              rw [hlen] at hdg
              unfold xokc at hokc
              rw [hi] at hdg hokc
              dsimp only at hokc
              rw [if_pos t1] at hokc
              unfold xtok at hokc
              simp only [Bool.and_eq_true, decide_eq_true_eq, Bool.or_eq_true, List.any_eq_true] at hokc
              obtain ⟨⟨⟨⟨⟨⟨⟨u1, u2⟩, u3⟩, ⟨q, hq, hq1, hq2⟩⟩, u5⟩, u6⟩, u7⟩, u8⟩ := hokc
              rw [← t2] at u1 u2 u3
              obtain ⟨w1, w2, w3⟩ := hP.2.2.2.2.2.1 _ u3
              dsimp only at w1 w3
              obtain ⟨sa, hsa⟩ := hT.2.2.2.1 q hq
              rw [hq1, hq2] at hsa
              have hk9 := hts _ (hP.2.2.2.2.2.2.2.2 _ _ u1)
              have hi9 := hts _ (hP.2.2.2.2.2.2.2.2 _ _ u2)
              have hat9 : ∀ w ∈ vx_atS (xnm M).cls xi.2.2.2.2.1.toNat (xexN G k) (xnms G), w.before args s = true := fun w hw9 => by
                rcases (w3 w hw9).1 with z | z
                · exact hts w z
                · exact hbs w z
              have hgd : ∀ w ∈ Cond.classLink (xnm M).cls idx (xexN G k) :: Cond.initialized (xexN G k) :: vx_atS (xnm M).cls xi.2.2.2.2.1.toNat (xexN G k) (xnms G), vx_ot w = true := fun w hw9 => by
                rcases List.mem_cons.mp hw9 with rfl | hw9
                · rfl
                · rcases List.mem_cons.mp hw9 with rfl | hw9
                  · rfl
                  · exact (w3 w hw9).2
              have hxx : ∀ t : State, s.vm.Alike t.vm → t.heap.size = H.size + 1 → (∀ q : Nat, q < H.size → t.heap[q]? = H[q]?) → xQx (xexN G) D cl cT bs k S' (xexN G k) s t := fun t hA hz ho =>
                ⟨rfl, (hR.new hw hz ho trivial).moved hA, by rw [hz]; exact Nat.le_succ_of_le hS.1, fun q h1 h2 => by rw [ho q (Nat.lt_of_lt_of_le h1 hS.1)]; exact hS.2.1 q h1 h2⟩
              have hsum : ((st.map (cv bs)).map fun v => v.category).sum ≤ 8 := by rw [cv_sum]; exact t3
              have hno : ∀ z ∈ c.exceptionTable.toList, False := fun z hz => by rw [htab, t4] at hz; cases hz
              rcases u8 with ⟨⟨v4, v6⟩, v9⟩ | ⟨⟨v4, v6⟩, v9⟩
              · exact vx_throwS hx hb hnt hown w1 w2 hk9 hi9 hsa hat9 hgd hT.2.1 hT.2.2.1 hS (by rw [hl.1]; exact C.2.2.1.symm) hdg u7 v4 v6 v9 (fun z hz => (hno z hz).elim) (Nat.lt_of_lt_of_le u5 hRf) (by omega) (by omega) (by omega) hlocks hxx hS.2.2 (by omega) (by omega)
              · exact vx_throwSW hx hb hnt hown w1 w2 hk9 hi9 hsa hat9 hgd hT.2.1 hT.2.2.1 hS (by rw [hl.1]; exact C.2.2.1.symm) hdg u7 v4 v6 v9 (fun z hz => (hno z hz).elim) (Nat.lt_of_lt_of_le u5 hRf) (by omega) (by omega) (by omega) hlocks hxx hS.2.2 (by omega) (by omega)
            · split at h
              · -- a step
                rename_i pc' L' st' S1 hst
                have m1 := xst_mono hst
                have m2 := xrun_mono hexm f _ _ _ _ _ _ h
                dsimp only at m1
                refine xst_sound C hok hdg hlen hst hT.1.1 hbz (Nat.not_le.mpr hT.1.2) hR hS hl (by dsimp only; omega) (by dsimp only; omega) (fun H1 locs1 ls1 c1 s1 hc1 hs1 hR1 hS1 hl1 => ?_)
                dsimp only at hc1 hs1 hR1 hl1
                subst hc1; subst hs1
                have := ih _ _ _ _ _ _ h H1 locs1 ls1 _ _ hR1 hS1 hl1 (show (cells + (S1.1 - S.1)) + _ ≤ _ by omega) (show (slots + (S1.2.1 - S.2.1)) + _ ≤ _ by omega)
                rw [show cells + (S1.1 - S.1) + (S'.1 - S1.1) = cells + (S'.1 - S.1) by omega, show slots + (S1.2.1 - S.2.1) + (S'.2.1 - S1.2.1) = slots + (S'.2.1 - S.2.1) by omega] at this
                exact this
              · cases h
      · cases h
    · cases h
end XAL
