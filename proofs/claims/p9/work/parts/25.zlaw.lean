/-! The law's own body, run by the small machine. -/
def zS0 : xS := (0, 0, List.replicate 48 (List.replicate 48 (.inr none)))
theorem xBw_of {w : Cond} (hw : xBw w = true) {A : Array Value} {U : State} (h : w.before A U = true) : va_Nw w U := by
  unfold xBw at hw
  split at hw
  · exact va_AO.of h
  · exact va_Nw.of rfl h
  · exact va_Nw.of rfl h
  · exact va_Nw.of rfl h
  · cases hw
set_option maxRecDepth 20000 in
theorem znar_s : ∀ q ∈ zE.1, Cond.exactly (.string q.1 q.2.1) "java/lang/String" ∈ flatC (Jvm.Cond.and given_1 narrow_1) := by decide +kernel
set_option maxRecDepth 20000 in
theorem znar_c : ∀ q ∈ zE.2.2, Cond.not (.castable q.1 q.2) ∈ flatC (Jvm.Cond.and given_1 narrow_1) := by decide +kernel
set_option maxRecDepth 20000 in
theorem znar_1 : Cond.isRef (.static Bundle.tN "UNASSIGNED_STACK" Bundle.steD) ∈ flatC (Jvm.Cond.and given_1 narrow_1) := by decide +kernel
set_option maxRecDepth 20000 in
theorem znar_2 : Cond.isRef (.static Bundle.tN "SUPPRESSED_SENTINEL" Bundle.listD) ∈ flatC (Jvm.Cond.and given_1 narrow_1) := by decide +kernel
set_option maxRecDepth 20000 in
theorem zstr_in : ∀ q ∈ zE.1, Cond.stringRef q.1 q.2.1 q.2.2 ∈ lw_tbl := by decide +kernel
set_option maxRecDepth 20000 in
theorem zsta_in : Cond.laysStatic Bundle.tN "UNASSIGNED_STACK" Bundle.steD ∈ lw_tbl ∧ Cond.laysStatic Bundle.tN "SUPPRESSED_SENTINEL" Bundle.listD ∈ lw_tbl ∧ Cond.initialized Bundle.tN ∈ lw_tbl := by decide +kernel
set_option maxRecDepth 20000 in
theorem zins_in : ∀ q ∈ zcl.map (fun q => (q.1, q.2.2)), Cond.instantiable q.1 q.2 ∈ lw_tbl := by decide +kernel
theorem zM_law : zLaw ∈ zprog := List.mem_of_getElem? (i := zLawN) rfl
/-- the law comes to its end, where the small machine's run of it does -/
theorem zlaw {p : Program} {e : Env} {s : State} {m : MethodId} {below : List Frame} {meth : Method} {c : Code} (l : Launch) (hnt : l.stackTraces = false) {b L : Nat} {xs : Nat → Int32} (C0 : lw_At p s m meth c b L xs) (htab : c.exceptionTable.toList = []) {d F F' : Nat} {S' : xS}
    (h : xrun (L + 1, xs) zcl zfty zfdef (xck zG) zprog zLaw (xex (L + 1, xs) zcl zfty zfdef (xck zG) zprog d F) F' 0 [(0, .retAddr 0)] [] zS0 = some (.inl (some (.int 1)), S')) (h1 : S'.1 ≤ 601024) (h2 : S'.2.1 ≤ 7293034) :
    W p l e room_1 s m #[Value.ref b] below meth c s.heap [] 0 0 (lw_Z below #[Value.ref b] s) (entryFrame m ([Value.ref b] : List Value).toArray 8) := by
  obtain ⟨hx, hb, hr, hml, hown, hts, hX, hbl, hlocks, hgv⟩ := id C0
  have hfl := flat_of_before _ hgv
  have htz : ∀ w ∈ zTz, w.before #[Value.ref b] s = true := fun w hw => hts w (zTz_in w hw)
  have hbz : ∀ w ∈ zBs, w.before #[Value.ref b] s = true := fun w hw => hts w (zBs_in w hw)
  have key : ∀ k : Nat, ∃ r : ClassId × (Nat → Nat), ∀ q : vw_C, zcl[k]? = some q → u_Kn s q.1 q.2.1 q.2.2 r.1 r.2 := by
    intro k
    cases hk : zcl[k]? with
    | none => exact ⟨(0, fun _ => 0), fun q hq => by cases hq⟩
    | some q =>
      obtain ⟨cC, iS, hK⟩ := u_known (C := q.1) (T := q.2.1) (N := q.2.2) (n := q.2.2) htz (zCls k q hk).1 (hts _ (zins_in (q.1, q.2.2) (List.mem_map.mpr ⟨q, List.mem_of_getElem? hk, rfl⟩)))
      exact ⟨(cC, iS), fun q' hq' => by cases hq'; exact hK⟩
  obtain ⟨f, hf⟩ := Classical.skolem.mp key
  have hK : va_K (fun k => (f k).1, fun k => (f k).2) zcl [] s := ⟨fun k q hq => hf k q hq, fun k q hq => by simp at hq⟩
  have hR : xR (fun k => (f k).1, fun k => (f k).2) zcl (fun ty => (s.vm.findClass ("[" ++ ty.toString)).getD 0) s (s.heap.size, b) zS0 s.heap :=
    ⟨rfl, hK, fun ty cA hq => by show cA = (s.vm.findClass ("[" ++ ty.toString)).getD 0; rw [hq]; rfl, fun k c9 hk => absurd (xat_lt hk).1 (Nat.not_lt_zero _)⟩
  have hA : ∀ a : Nat, a < s.heap.size → ¬ s.heap.size ≤ a := fun a ha => Nat.not_le.mpr ha
  have hT : xTh (L + 1, xs) zE (s.heap.size, b) s s.heap := by
    refine ⟨⟨hX, hbl⟩, vx_Zqof (hts _ zsta_in.1) (hts _ zsta_in.2.2) (hfl _ znar_1) hA, vx_Zqof (hts _ zsta_in.2.1) (hts _ zsta_in.2.2) (hfl _ znar_2) hA, fun q hq => ?_, fun w hw => xBw_of (zBs_ok w hw) (hbz w hw), fun q hq => va_Nc.of (hfl _ (znar_c q hq))⟩
    obtain ⟨a, c1, cell, k, q1, -⟩ := Cond.exactly_spec (hfl _ (znar_s q hq))
    exact ⟨a, vk_R.of (hts _ (zstr_in q hq)) q1⟩
  have hC : xCx zcl zfty zfdef zTT zTz zE.2.1 (xnm zLaw).cls (decide (xkd zLaw = 2 ∨ xkd zLaw = 3)) (xbc zLaw) (xmx zLaw) p room_1 s m #[Value.ref b] meth c :=
    ⟨hx, hb, hml, hown, htz, hbz, zCls, fun h9 => absurd h9 (by decide +kernel), by decide, by decide, zTz_q⟩
  have hl := lv_entry ([.ref b]) (n := 8) (Nat.le_of_ble_eq_true rfl)
  rw [lg_entry_eq]
  generalize (lg_sl ([.ref b]) ++ List.replicate (8 - (lg_sl ([.ref b])).length) Slot.unset).toArray = ls at hl ⊢
  have hl : lv_has ls 8 (cL (s.heap.size, b) [(0, .retAddr 0)]) := hl
  have w := xrun_sound (e := e) (below := below) (R := room_1) zPg zM_law hC (by decide) (by decide) hr hlocks htab hnt hT hbl (xex_mono (F := F) d) (fun a N vs S o S1 hN he => xex_sound zPg hnt F d a N vs S o S1 hN he) F' 0 _ [] zS0 _ S' h s.heap [] ls 0 0 hR va_S.rf hl (by rw [Nat.zero_add]; exact h1) (by rw [Nat.zero_add]; exact h2)
  intro T hT9 X9
  obtain ⟨t, a1, o, b1, b2, ⟨b3, -, -⟩, Lc, ⟨b4, b5, b6⟩, b7⟩ := w T hT9 X9
  exact ⟨t, a1, o, b1, b2, b3, b4, b5, b6.weaken (fun z hz hlt => absurd hlt (Nat.not_lt.mpr (b7 z hz))) (by rw [Nat.zero_add]; exact h1) (by rw [Nat.zero_add]; exact h2)⟩
