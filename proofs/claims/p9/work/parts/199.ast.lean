section ASND3
variable {ρ : Nat → Int32}
theorem alen_ok {N : Option Nat} {sc : xSc} (hsc : ∀ n, N = some n → sc = (n + 1, ρ)) {A : aS} {S : xS} {as : List aV} {st : List Value} (hS : aGS ρ A S) (hs : aGs ρ as st) : ∀ t, alen N A as = some t → ∃ t', xlen sc S st = some t' ∧ aGs ρ t t' := by
  intro t h
  unfold alen at h
  split at h
  · obtain ⟨v, r, rfl, h1, h2⟩ := aGs_cons hs
    cases (show v = _ from h1)
    obtain ⟨n, hn, rfl⟩ := Option.map_eq_some_iff.mp h
    rw [hsc n hn]
    exact ⟨_, rfl, rfl, h2⟩
  · rename_i a r
    obtain ⟨v, r, rfl, h1, h2⟩ := aGs_cons hs
    cases (show v = _ from h1)
    split at h
    · rename_i ty n du hc
      cases h
      obtain ⟨c, hx, hg⟩ := aGS_at hS hc
      have key : ∃ x : vp_A, c = .inl (ty, x) ∧ x.1 = n := by
        unfold aGc at hg
        split at hg
        · rename_i he; cases he
        · rename_i he; cases he
        · rename_i he; cases he; obtain ⟨f, rfl, -⟩ := hg; exact ⟨_, rfl, rfl⟩
        · rename_i he; cases he; obtain ⟨f, rfl, -⟩ := hg; exact ⟨_, rfl, rfl⟩
        · rename_i he; cases he; obtain ⟨f, rfl, -⟩ := hg; exact ⟨_, rfl, rfl⟩
        · rename_i he; cases he; obtain ⟨f, rfl, -⟩ := hg; exact ⟨_, rfl, rfl⟩
        · exact hg.elim
      obtain ⟨x, rfl, rfl⟩ := key
      exact ⟨.int (Int32.ofNat x.1) :: r, by unfold xlen; dsimp only; rw [hx], rfl, h2⟩
    · cases h
  · cases h
theorem aiald_ok {N : Option Nat} {sc : xSc} (hsc : ∀ n, N = some n → sc = (n + 1, ρ)) {E : aE} {pc : Nat} {L : aL} {L' : xL} {as : List aV} {st : List Value} {A : aS} {S : xS} {frs : List (aE × aF)} (hE : aGe ρ E) (hL : aGl ρ L L') (hs : aGs ρ as st) (hS : aGS ρ A S) (h : aiald E N pc L as A = some frs) : ∃ q ∈ frs, ∃ fr, ((xiald sc S st).map fun t => ((pc + 1, L', t, S) : xF)) = some fr ∧ aGF ρ q fr := by
  unfold aiald at h
  split at h
  · rename_i i z0 r0
    obtain ⟨v1, _, rfl, h1, hs⟩ := aGs_cons hs
    obtain ⟨v2, r, rfl, h2, h3⟩ := aGs_cons hs
    cases (show v1 = _ from h1)
    cases (show v2 = _ from h2)
    cases hN : N with
    | none => rw [hN] at h; cases h
    | some n =>
      rw [hN] at h
      dsimp only at h
      rw [hsc n hN]
      split at h
      · rename_i hx
        cases h
        refine ⟨_, List.mem_singleton_self _, (pc + 1, L', .int (ρ i.toNatClampNeg) :: r, S), ?_, hE, rfl, hL, ⟨aG_nrm hE rfl, h3⟩, hS⟩
        unfold xiald
        dsimp only
        rw [if_pos (by rw [Nat.add_sub_cancel]; exact hx)]
        rfl
      · cases h
  · obtain ⟨v1, _, rfl, h1, hs⟩ := aGs_cons hs
    obtain ⟨v2, r, rfl, h2, h3⟩ := aGs_cons hs
    cases (show v2 = _ from h2)
    split at h
    · rename_i n d us hc
      obtain ⟨c, hx, f, rfl, hg⟩ := aGS_at hS hc
      obtain ⟨x, rfl, hin, q, hq, hq2⟩ := ard_ok (el := fun j => .int (f j)) hE hL h3 hS h1 (fun j a hj ha => by cases ha; exact hg j trivial) h
      exact ⟨q, hq, _, by unfold xiald; dsimp only; rw [hx]; dsimp only; rw [if_pos hin]; rfl, hq2⟩
    · cases h
  · cases h
theorem azald_ok {E : aE} {pc : Nat} {L : aL} {L' : xL} {as : List aV} {st : List Value} {A : aS} {S : xS} {frs : List (aE × aF)} (hE : aGe ρ E) (hL : aGl ρ L L') (hs : aGs ρ as st) (hS : aGS ρ A S) (h : azald E pc L as A = some frs) : ∃ q ∈ frs, ∃ fr, ((xzald S st).map fun t => ((pc + 1, L', t, S) : xF)) = some fr ∧ aGF ρ q fr := by
  unfold azald at h
  split at h
  · obtain ⟨v1, _, rfl, h1, hs⟩ := aGs_cons hs
    obtain ⟨v2, r, rfl, h2, h3⟩ := aGs_cons hs
    cases (show v2 = _ from h2)
    split at h
    · rename_i n d us hc
      obtain ⟨c, hx, f, rfl, hg⟩ := aGS_at hS hc
      obtain ⟨x, rfl, hin, q, hq, hq2⟩ := ard_ok (el := fun j => .int (f j)) hE hL h3 hS h1 (fun j a hj ha => by cases ha; exact hg j trivial) h
      exact ⟨q, hq, _, by unfold xzald; dsimp only; rw [hx]; dsimp only; rw [if_pos hin]; rfl, hq2⟩
    · cases h
  · cases h
theorem alald_ok {E : aE} {pc : Nat} {L : aL} {L' : xL} {as : List aV} {st : List Value} {A : aS} {S : xS} {frs : List (aE × aF)} (hE : aGe ρ E) (hL : aGl ρ L L') (hs : aGs ρ as st) (hS : aGS ρ A S) (h : alald E pc L as A = some frs) : ∃ q ∈ frs, ∃ fr, ((xlald S st).map fun t => ((pc + 1, L', t, S) : xF)) = some fr ∧ aGF ρ q fr := by
  unfold alald at h
  split at h
  · obtain ⟨v1, _, rfl, h1, hs⟩ := aGs_cons hs
    obtain ⟨v2, r, rfl, h2, h3⟩ := aGs_cons hs
    cases (show v2 = _ from h2)
    split at h
    · rename_i n d us hc
      obtain ⟨c, hx, f, rfl, hg⟩ := aGS_at hS hc
      obtain ⟨x, rfl, hin, q, hq, hq2⟩ := ard_ok (el := fun j => .long (f j)) hE hL h3 hS h1 (fun j a hj ha => by cases ha; exact hg j trivial) h
      exact ⟨q, hq, _, by unfold xlald; dsimp only; rw [hx]; dsimp only; rw [if_pos hin]; rfl, hq2⟩
    · cases h
  · cases h
theorem aaald_ok {E : aE} {pc : Nat} {L : aL} {L' : xL} {as : List aV} {st : List Value} {A : aS} {S : xS} {frs : List (aE × aF)} (hE : aGe ρ E) (hL : aGl ρ L L') (hs : aGs ρ as st) (hS : aGS ρ A S) (h : aaald E pc L as A = some frs) : ∃ q ∈ frs, ∃ fr, ((xaald S st).map fun t => ((pc + 1, L', t, S) : xF)) = some fr ∧ aGF ρ q fr := by
  unfold aaald at h
  split at h
  · obtain ⟨v1, _, rfl, h1, hs⟩ := aGs_cons hs
    obtain ⟨v2, r, rfl, h2, h3⟩ := aGs_cons hs
    cases (show v2 = _ from h2)
    split at h
    · rename_i n d us hc
      obtain ⟨c, hx, f, rfl, hg⟩ := aGS_at hS hc
      obtain ⟨x, rfl, hin, q, hq, hq2⟩ := ard_ok (el := fun j => va_rf (f j)) hE hL h3 hS h1 (fun j a hj ha => by cases ha; exact hg j trivial) h
      exact ⟨q, hq, _, by unfold xaald; dsimp only; rw [hx]; dsimp only; rw [if_pos hin]; rfl, hq2⟩
    · cases h
  · cases h
theorem aiast_ok {E : aE} {A : aS} {S : xS} {as : List aV} {st : List Value} (hE : aGe ρ E) (hs : aGs ρ as st) (hS : aGS ρ A S) : ∀ t, aiast E A as = some t → ∃ t', xiast S st = some t' ∧ aGs ρ t.1 t'.1 ∧ aGS ρ t.2 t'.2 := by
  intro t h
  unfold aiast at h
  split at h
  · obtain ⟨v1, _, rfl, h1, hs⟩ := aGs_cons hs
    obtain ⟨v2, _, rfl, h2, hs⟩ := aGs_cons hs
    obtain ⟨v3, r, rfl, h3, h4⟩ := aGs_cons hs
    cases (show v3 = _ from h3)
    split at h
    · rename_i n d us hc
      split at h
      · rename_i hi
        obtain ⟨y, rfl⟩ := aG_int h1 hi
        obtain ⟨c, hx, f, rfl, hg⟩ := aGS_at hS hc
        obtain ⟨q, hq, rfl⟩ := Option.map_eq_some_iff.mp h
        obtain ⟨x, rfl, hin, hw⟩ := awr_ok (w := .int y) (el := fun j => .int (f j)) (el' := fun j => .int (upd f (Int32.toNatClampNeg ((fun v => match v with | Value.int x => x | _ => 0) v2)) y j)) hE h2 hq
        exact ⟨_, by unfold xiast; dsimp only; rw [hx]; dsimp only; rw [if_pos hin], h4, aGS_put hS hc (show aGc ρ (.inl (.int, n, q)) (.inl (.int, n, .inl (upd f x.toNatClampNeg y))) from ⟨_, rfl, hw hg (by show aG ρ _ (.int (upd f _ y _)); rw [show upd f x.toNatClampNeg y x.toNatClampNeg = y from if_pos rfl]; exact h1) (fun j => aG_top _) (fun j hj => by show Value.int (upd f _ y j) = _; rw [show upd f x.toNatClampNeg y j = f j from if_neg hj])⟩)⟩
      · cases h
    · cases h
  · cases h
theorem azast_ok {E : aE} {A : aS} {S : xS} {as : List aV} {st : List Value} (hE : aGe ρ E) (hs : aGs ρ as st) (hS : aGS ρ A S) : ∀ t, azast E A as = some t → ∃ t', xzast S st = some t' ∧ aGs ρ t.1 t'.1 ∧ aGS ρ t.2 t'.2 := by
  intro t h
  unfold azast at h
  split at h
  · rename_i y _ _ _
    obtain ⟨v1, _, rfl, h1, hs⟩ := aGs_cons hs
    obtain ⟨v2, _, rfl, h2, hs⟩ := aGs_cons hs
    obtain ⟨v3, r, rfl, h3, h4⟩ := aGs_cons hs
    cases (show v1 = _ from h1)
    cases (show v3 = _ from h3)
    split at h
    · rename_i n d us hc
      obtain ⟨c, hx, f, rfl, hg⟩ := aGS_at hS hc
      obtain ⟨q, hq, rfl⟩ := Option.map_eq_some_iff.mp h
      obtain ⟨x, rfl, hin, hw⟩ := awr_ok (w := .int (vp_nar .boolean y)) (el := fun j => .int (f j)) (el' := fun j => .int (upd f (Int32.toNatClampNeg ((fun v => match v with | Value.int x => x | _ => 0) v2)) (vp_nar .boolean y) j)) hE h2 hq
      exact ⟨_, by unfold xzast; dsimp only; rw [hx]; dsimp only; rw [if_pos hin], h4, aGS_put hS hc (show aGc ρ (.inl (.boolean, n, q)) (.inl (.boolean, n, .inl (upd f x.toNatClampNeg (vp_nar .boolean y)))) from ⟨_, rfl, hw hg (by show Value.int (upd f _ _ _) = _; rw [show upd f x.toNatClampNeg (vp_nar .boolean y) x.toNatClampNeg = vp_nar .boolean y from if_pos rfl]) (fun j => aG_top _) (fun j hj => by show Value.int (upd f _ _ j) = _; rw [show upd f x.toNatClampNeg (vp_nar .boolean y) j = f j from if_neg hj])⟩)⟩
    · cases h
  · cases h
theorem alast_ok {E : aE} {A : aS} {S : xS} {as : List aV} {st : List Value} (hE : aGe ρ E) (hs : aGs ρ as st) (hS : aGS ρ A S) : ∀ t, alast E A as = some t → ∃ t', xlast S st = some t' ∧ aGs ρ t.1 t'.1 ∧ aGS ρ t.2 t'.2 := by
  intro t h
  unfold alast at h
  split at h
  · obtain ⟨v1, _, rfl, h1, hs⟩ := aGs_cons hs
    obtain ⟨v2, _, rfl, h2, hs⟩ := aGs_cons hs
    obtain ⟨v3, r, rfl, h3, h4⟩ := aGs_cons hs
    cases (show v3 = _ from h3)
    split at h
    · rename_i n d us hc
      split at h
      · rename_i hi
        obtain ⟨y, rfl⟩ := aG_long h1 hi
        obtain ⟨c, hx, f, rfl, hg⟩ := aGS_at hS hc
        obtain ⟨q, hq, rfl⟩ := Option.map_eq_some_iff.mp h
        obtain ⟨x, rfl, hin, hw⟩ := awr_ok (w := .long y) (el := fun j => .long (f j)) (el' := fun j => .long (vp_updL f (Int32.toNatClampNeg ((fun v => match v with | Value.int x => x | _ => 0) v2)) y j)) hE h2 hq
        exact ⟨_, by unfold xlast; dsimp only; rw [hx]; dsimp only; rw [if_pos hin], h4, aGS_put hS hc (show aGc ρ (.inl (.long, n, q)) (.inl (.long, n, .inr (.inl (vp_updL f x.toNatClampNeg y)))) from ⟨_, rfl, hw hg (by show aG ρ _ (.long (vp_updL f _ y _)); rw [show vp_updL f x.toNatClampNeg y x.toNatClampNeg = y from if_pos rfl]; exact h1) (fun j => aG_topL _) (fun j hj => by show Value.long (vp_updL f _ y j) = _; rw [show vp_updL f x.toNatClampNeg y j = f j from if_neg hj])⟩)⟩
      · cases h
    · cases h
  · cases h
theorem aaast_ok {cl : List vw_C} {A : aS} {S : xS} {as : List aV} {st : List Value} (hs : aGs ρ as st) (hS : aGS ρ A S) : ∀ t, aaast cl A as = some t → ∃ t', xaast cl S st = some t' ∧ aGs ρ t.1 t'.1 ∧ aGS ρ t.2 t'.2 := by
  intro t h
  unfold aaast at h
  split at h
  · rename_i v i a r0
    obtain ⟨v1, _, rfl, h1, hs⟩ := aGs_cons hs
    obtain ⟨v2, _, rfl, h2, hs⟩ := aGs_cons hs
    obtain ⟨v3, r, rfl, h3, h4⟩ := aGs_cons hs
    cases (show v1 = _ from h1)
    cases (show v2 = _ from h2)
    cases (show v3 = _ from h3)
    split at h
    · rename_i C n d us ci fs hc hv
      split at h
      · rename_i hi
        cases h
        obtain ⟨c, hx, f, rfl, hg⟩ := aGS_at hS hc
        obtain ⟨c2, hx2, vs, rfl, -⟩ := aGS_at hS hv
        refine ⟨_, by unfold xaast; dsimp only; rw [hx, hx2]; dsimp only; rw [if_pos hi], h4, aGS_put hS hc (show aGc ρ (.inl (.object C, n, d, (i.toNatClampNeg, .inl (.ref v)) :: us)) (.inl (.object C, n, .inr (.inr (.inr (.inr (va_up f i.toNatClampNeg (some v))))))) from ⟨_, rfl, fun j hj => ?_⟩)⟩
        show aG ρ (if i.toNatClampNeg = j then .inl (.ref v) else aLk d us j) (va_rf (if j = i.toNatClampNeg then some v else f j))
        by_cases e : i.toNatClampNeg = j
        · rw [if_pos e, if_pos e.symm]; exact rfl
        · rw [if_neg e, if_neg (fun q => e q.symm)]; exact hg j hj
      · cases h
    · cases h
  · cases h
theorem afit_ok {ty : FieldType} {a : aV} {v : Value} (h : aG ρ a v) (hf : afit ty a = true) : xfit ty v = true := by
  unfold afit at hf
  split at hf
  · rw [show v = _ from h]; exact hf
  · rw [of_decide_eq_true hf, show v = _ from h]; rfl
  · obtain ⟨x, rfl, -⟩ := h; rw [of_decide_eq_true hf]; rfl
  · obtain ⟨x, rfl⟩ := h; rw [of_decide_eq_true hf]; rfl
theorem agetf_ok {E : aE} {A : aS} {S : xS} {ci k : Nat} {as : List aV} {st : List Value} (hE : aGe ρ E) (hs : aGs ρ as st) (hS : aGS ρ A S) : ∀ t, agetf E A ci k as = some t → ∃ t', xgetf S ci k st = some t' ∧ aGs ρ t t' := by
  intro t h
  unfold agetf at h
  split at h
  · obtain ⟨v1, r, rfl, h1, h2⟩ := aGs_cons hs
    cases (show v1 = _ from h1)
    split at h
    · rename_i cj fs hc
      split at h
      · rename_i hi
        obtain ⟨c, hx, vs, rfl, hg⟩ := aGS_at hS hc
        obtain ⟨a, ha, rfl⟩ := Option.map_eq_some_iff.mp h
        obtain ⟨v, hv, hg2⟩ := aGs_get hg ha
        exact ⟨v :: r, by unfold xgetf; dsimp only; rw [hx]; dsimp only; rw [if_pos hi, hv]; rfl, aG_nrm hE hg2, h2⟩
      · cases h
    · cases h
  · cases h
theorem aputf_ok {A : aS} {S : xS} {ci k : Nat} {ty : FieldType} {as : List aV} {st : List Value} (hs : aGs ρ as st) (hS : aGS ρ A S) : ∀ t, aputf A ci k ty as = some t → ∃ t', xputf S ci k ty st = some t' ∧ aGs ρ t.1 t'.1 ∧ aGS ρ t.2 t'.2 := by
  intro t h
  unfold aputf at h
  split at h
  · obtain ⟨v1, _, rfl, h1, hs⟩ := aGs_cons hs
    obtain ⟨v2, r, rfl, h2, h3⟩ := aGs_cons hs
    cases (show v2 = _ from h2)
    split at h
    · rename_i cj fs hc
      split at h
      · rename_i hi
        cases h
        obtain ⟨c, hx, vs, rfl, hg⟩ := aGS_at hS hc
        exact ⟨_, by unfold xputf; dsimp only; rw [hx]; dsimp only; rw [if_pos ⟨hi.1, by rw [← aGs_len hg]; exact hi.2.1, afit_ok h1 hi.2.2⟩], h3, aGS_put hS hc (show aGc ρ (.inr (some (ci, fs.set k _))) (.inr (some (ci, vs.set k v1))) from ⟨_, rfl, aGs_set k hg h1⟩)⟩
      · cases h
    · cases h
  · cases h
theorem anewa_ok {A : aS} {S : xS} {at0 : ArrayType} {as : List aV} {st : List Value} (hs : aGs ρ as st) (hS : aGS ρ A S) : ∀ t, anewa A at0 as = some t → ∃ t', xnewa S at0 st = some t' ∧ aGs ρ t.1 t'.1 ∧ aGS ρ t.2 t'.2 := by
  intro t h
  unfold anewa at h
  split at h
  · obtain ⟨v1, r, rfl, h1, h2⟩ := aGs_cons hs
    cases (show v1 = _ from h1)
    split at h
    · cases h
    · rename_i hn
      split at h
      · obtain ⟨A', ha, rfl⟩ := Option.map_eq_some_iff.mp h
        obtain ⟨S', hs', hS'⟩ := aGS_new (c := .inl (.int, _, .inl fun _ => 0)) hS ha ⟨_, rfl, fun j _ => rfl⟩
        exact ⟨(.ref S.1 :: r, S'), by unfold xnewa; dsimp only; rw [if_neg hn, hs']; rfl, ⟨by rw [← hS.1]; rfl, h2⟩, hS'⟩
      · obtain ⟨A', ha, rfl⟩ := Option.map_eq_some_iff.mp h
        obtain ⟨S', hs', hS'⟩ := aGS_new (c := .inl (.boolean, _, .inl fun _ => 0)) hS ha ⟨_, rfl, fun j _ => rfl⟩
        exact ⟨(.ref S.1 :: r, S'), by unfold xnewa; dsimp only; rw [if_neg hn, hs']; rfl, ⟨by rw [← hS.1]; rfl, h2⟩, hS'⟩
      · obtain ⟨A', ha, rfl⟩ := Option.map_eq_some_iff.mp h
        obtain ⟨S', hs', hS'⟩ := aGS_new (c := .inl (.long, _, .inr (.inl fun _ => 0))) hS ha ⟨_, rfl, fun j _ => rfl⟩
        exact ⟨(.ref S.1 :: r, S'), by unfold xnewa; dsimp only; rw [if_neg hn, hs']; rfl, ⟨by rw [← hS.1]; rfl, h2⟩, hS'⟩
      · cases h
  · cases h
theorem anewq_ok {A : aS} {S : xS} {C : String} {as : List aV} {st : List Value} (hs : aGs ρ as st) (hS : aGS ρ A S) : ∀ t, anewq A C as = some t → ∃ t', xnewq S C st = some t' ∧ aGs ρ t.1 t'.1 ∧ aGS ρ t.2 t'.2 := by
  intro t h
  unfold anewq at h
  split at h
  · obtain ⟨v1, r, rfl, h1, h2⟩ := aGs_cons hs
    cases (show v1 = _ from h1)
    split at h
    · cases h
    · rename_i hn
      obtain ⟨A', ha, rfl⟩ := Option.map_eq_some_iff.mp h
      obtain ⟨S', hs', hS'⟩ := aGS_new (c := .inl (.object C, _, .inr (.inr (.inr (.inr fun _ => none))))) hS ha ⟨_, rfl, fun j _ => rfl⟩
      exact ⟨(.ref S.1 :: r, S'), by unfold xnewq; dsimp only; rw [if_neg hn, hs']; rfl, ⟨by rw [← hS.1]; rfl, h2⟩, hS'⟩
  · cases h
theorem aLk_cpy {d : aV} {G : Nat → aV} {dp : Nat} : ∀ (n : Nat) (us : List (Nat × aV)) (k : Nat), aLk d ((List.range n).map (fun j => (dp + j, G j)) ++ us) k = if dp ≤ k ∧ k < dp + n then G (k - dp) else aLk d us k
  | 0, us, k => by rw [if_neg (by omega)]; rfl
  | n + 1, us, k => by
    rw [List.range_succ, List.map_append, List.append_assoc, aLk_cpy n]
    show (if dp ≤ k ∧ k < dp + n then G (k - dp) else (if dp + n = k then G n else aLk d us k)) = _
    by_cases h1 : dp ≤ k ∧ k < dp + n
    · rw [if_pos h1, if_pos (by omega)]
    · rw [if_neg h1]
      by_cases h2 : dp + n = k
      · rw [if_pos h2, if_pos (by omega), show k - dp = n by omega]
      · rw [if_neg h2, if_neg (by omega)]
theorem acpy_ok {A : aS} {S : xS} {as : List aV} {st : List Value} (hs : aGs ρ as st) (hS : aGS ρ A S) : ∀ t, acpy A as = some t → ∃ t', xcpy S st = some t' ∧ aGs ρ t.1 t'.1 ∧ aGS ρ t.2 t'.2 := by
  intro t h
  unfold acpy at h
  split at h
  · obtain ⟨v1, _, rfl, h1, hs⟩ := aGs_cons hs
    obtain ⟨v2, _, rfl, h2, hs⟩ := aGs_cons hs
    obtain ⟨v3, _, rfl, h3, hs⟩ := aGs_cons hs
    obtain ⟨v4, _, rfl, h4, hs⟩ := aGs_cons hs
    obtain ⟨v5, r, rfl, h5, h6⟩ := aGs_cons hs
    cases (show v1 = _ from h1)
    cases (show v2 = _ from h2)
    cases (show v3 = _ from h3)
    cases (show v4 = _ from h4)
    cases (show v5 = _ from h5)
    split at h
    · rename_i n0 d0 u0 n1 d1 u1 hc0 hc1
      split at h
      · cases h
      · rename_i hneg
        split at h
        · rename_i hle
          cases h
          obtain ⟨c0, hx0, f0, rfl, hg0⟩ := aGS_at hS hc0
          obtain ⟨c1, hx1, f1, rfl, hg1⟩ := aGS_at hS hc1
          refine ⟨_, by unfold xcpy; dsimp only; rw [hx0, hx1]; dsimp only; rw [if_neg hneg, if_pos hle], h6, aGS_put hS hc1 (show aGc ρ (.inl (.int, n1, d1, _)) (.inl (.int, n1, .inl _)) from ⟨_, rfl, fun j hj => ?_⟩)⟩
          rw [aLk_cpy]
          unfold va_cpy
          split
          · rename_i hq
            exact hg0 _ trivial
          · exact hg1 j hj
        · cases h
    · cases h
  · cases h
theorem asp_ok {A : aS} {S : xS} {k : Nat} {as : List aV} {st : List Value} (hs : aGs ρ as st) (hS : aGS ρ A S) : ∀ t, asp k as A = some t → ∃ t', xsp k st S = some t' ∧ aGs ρ t.1 t'.1 ∧ aGS ρ t.2 t'.2 := by
  intro t h
  unfold asp at h
  unfold xsp
  rw [aGs_w hs]
  split at h
  · cases h
  · rename_i h0
    rw [if_neg h0]
    split at h
    · rename_i h1
      rw [if_pos h1]
      split at h
      · cases h
        obtain ⟨v1, r, rfl, hv, h2⟩ := aGs_cons hs
        cases (show v1 = _ from hv)
        exact ⟨_, rfl, h2, hS⟩
      · cases h
    · rename_i h1
      rw [if_neg h1]
      split at h
      · rename_i h2
        rw [if_pos h2]
        obtain ⟨q, hq, rfl⟩ := Option.map_eq_some_iff.mp h
        obtain ⟨q', hq', hg⟩ := aii_ok (f := fun x y => some (if x < y then y else x)) gTop_ok hs q hq
        exact ⟨(q', S), by rw [hq']; rfl, hg, hS⟩
      · rename_i h2
        rw [if_neg h2]
        split at h
        · rename_i h3
          rw [if_pos h3]
          obtain ⟨q, hq, rfl⟩ := Option.map_eq_some_iff.mp h
          obtain ⟨q', hq', hg⟩ := aii_ok (f := fun x y => some (if y < x then y else x)) gTop_ok hs q hq
          exact ⟨(q', S), by rw [hq']; rfl, hg, hS⟩
        · rename_i h3
          rw [if_neg h3]
          split at h
          · rename_i h4
            rw [if_pos h4]
            exact acpy_ok hs hS t h
          · cases h
end ASND3
