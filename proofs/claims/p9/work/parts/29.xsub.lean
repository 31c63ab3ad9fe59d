/-! A run that needs fewer locals is a run with more. -/
def xle (L L' : xL) : Prop := ∀ i v, xfind L i = some v → xfind L' i = some v
def xnd : xL → Prop
  | [] => True
  | q :: l => (∀ z ∈ l, z.1 ≠ q.1) ∧ xnd l
theorem xnd_filter {p : Nat × Value → Bool} : ∀ {L : xL}, xnd L → xnd (L.filter p) := by
  intro L
  induction L with
  | nil => intro _; exact trivial
  | cons q l ih =>
    intro h
    rw [List.filter_cons]
    split
    · exact ⟨fun z hz => h.1 z (List.mem_filter.mp hz).1, ih h.2⟩
    · exact ih h.2
theorem xfind_none {L : xL} {i : Nat} (h : ∀ z ∈ L, z.1 ≠ i) : xfind L i = none := by
  induction L with
  | nil => rfl
  | cons q l ih =>
    obtain ⟨j, v⟩ := q
    show (if j = i then some v else xfind l i) = none
    rw [if_neg (h (j, v) List.mem_cons_self)]
    exact ih fun z hz => h z (List.mem_cons_of_mem _ hz)
theorem xfind_filter {p : Nat × Value → Bool} {i : Nat} : ∀ {L : xL}, xnd L → xfind (L.filter p) i = (match xfind L i with
    | some v => if p (i, v) then some v else none
    | none => none) := by
  intro L
  induction L with
  | nil => intro _; rfl
  | cons q l ih =>
    intro h
    obtain ⟨j, v⟩ := q
    rw [List.filter_cons]
    by_cases hj : j = i
    · subst hj
      have e : xfind ((j, v) :: l) j = some v := by show (if j = j then some v else xfind l j) = _; rw [if_pos rfl]
      rw [e]
      dsimp only
      split
      · show (if j = j then some v else xfind (l.filter p) j) = _
        rw [if_pos rfl]
      · exact xfind_none fun z hz => h.1 z (List.mem_filter.mp hz).1
    · have e : xfind ((j, v) :: l) i = xfind l i := by show (if j = i then some v else xfind l i) = _; rw [if_neg hj]
      rw [e]
      split
      · show (if j = i then some v else xfind (l.filter p) i) = _
        rw [if_neg hj]
        exact ih h.2
      · exact ih h.2
theorem xle_filter {p : Nat × Value → Bool} {L L' : xL} (h : xle L L') (h1 : xnd L) (h2 : xnd L') : xle (L.filter p) (L'.filter p) := by
  intro i v hv
  rw [xfind_filter h1] at hv
  rw [xfind_filter h2]
  split at hv
  · rename_i w hw
    rw [h i w hw]
    exact hv
  · cases hv
theorem xle_cons {L L' : xL} (q : Nat × Value) (h : xle L L') : xle (q :: L) (q :: L') := by
  obtain ⟨j, v⟩ := q
  intro i w hw
  have hw : (if j = i then some v else xfind L i) = some w := hw
  show (if j = i then some v else xfind L' i) = some w
  split at hw
  · rename_i hj; rw [if_pos hj]; exact hw
  · rename_i hj; rw [if_neg hj]; exact h i w hw
theorem xnd_sto1 {L : xL} {i : Nat} {v : Value} (h : xnd L) : xnd (xsto1 L i v) := ⟨fun z hz => by
  have := (List.mem_filter.mp hz).2
  simp only [Bool.and_eq_true, Bool.not_eq_true', beq_eq_false_iff_ne] at this
  exact this.1, xnd_filter h⟩
theorem xnd_sto2 {L : xL} {i : Nat} {v : Value} (h : xnd L) : xnd (xsto2 L i v) := ⟨fun z hz => by
  have := (List.mem_filter.mp hz).2
  simp only [Bool.and_eq_true, Bool.not_eq_true', beq_eq_false_iff_ne] at this
  exact this.1, xnd_filter h⟩
theorem xldI_sub {L L' : xL} {i : Nat} {v : Value} (h : xle L L') (hv : xldI L i = some v) : xldI L' i = some v := by
  unfold xldI at hv ⊢
  split at hv
  · rename_i x hx; rw [h i _ hx]; exact hv
  · cases hv
theorem xldL_sub {L L' : xL} {i : Nat} {v : Value} (h : xle L L') (hv : xldL L i = some v) : xldL L' i = some v := by
  unfold xldL at hv ⊢
  split at hv
  · rename_i x hx; rw [h i _ hx]; exact hv
  · cases hv
theorem xldA_sub {L L' : xL} {i : Nat} {v : Value} (h : xle L L') (hv : xldA L i = some v) : xldA L' i = some v := by
  unfold xldA at hv ⊢
  split at hv
  · rename_i x hx; rw [h i _ hx]; exact hv
  · rename_i hx; rw [h i _ hx]; exact hv
  · rename_i x hx; rw [h i _ hx]; exact hv
  · cases hv
theorem xstI_sub {L L' L1 : xL} {nL i : Nat} {st st1 : List Value} (h : xle L L') (h1 : xnd L) (h2 : xnd L') (hv : xstI L nL i st = some (L1, st1)) : ∃ L1', xstI L' nL i st = some (L1', st1) ∧ xle L1 L1' ∧ xnd L1 ∧ xnd L1' := by
  unfold xstI at hv ⊢
  split at hv
  · split at hv
    · rename_i hi
      cases hv
      exact ⟨_, by rw [if_pos hi]; rfl, xle_cons _ (xle_filter h h1 h2), xnd_sto1 h1, xnd_sto1 h2⟩
    · cases hv
  · cases hv
theorem xstL_sub {L L' L1 : xL} {nL i : Nat} {st st1 : List Value} (h : xle L L') (h1 : xnd L) (h2 : xnd L') (hv : xstL L nL i st = some (L1, st1)) : ∃ L1', xstL L' nL i st = some (L1', st1) ∧ xle L1 L1' ∧ xnd L1 ∧ xnd L1' := by
  unfold xstL at hv ⊢
  split at hv
  · split at hv
    · rename_i hi
      cases hv
      exact ⟨_, by rw [if_pos hi]; rfl, xle_cons _ (xle_filter h h1 h2), xnd_sto2 h1, xnd_sto2 h2⟩
    · cases hv
  · cases hv
theorem xstA_sub {L L' L1 : xL} {nL i : Nat} {st st1 : List Value} (h : xle L L') (h1 : xnd L) (h2 : xnd L') (hv : xstA L nL i st = some (L1, st1)) : ∃ L1', xstA L' nL i st = some (L1', st1) ∧ xle L1 L1' ∧ xnd L1 ∧ xnd L1' := by
  unfold xstA at hv ⊢
  split at hv
  · split at hv
    · rename_i hi
      cases hv
      exact ⟨_, by rw [if_pos hi]; rfl, xle_cons _ (xle_filter h h1 h2), xnd_sto1 h1, xnd_sto1 h2⟩
    · cases hv
  · split at hv
    · rename_i hi
      cases hv
      exact ⟨_, by rw [if_pos hi]; rfl, xle_cons _ (xle_filter h h1 h2), xnd_sto1 h1, xnd_sto1 h2⟩
    · cases hv
  · cases hv
set_option maxHeartbeats 4000000 in
theorem xst_sub {sc : xSc} {cl : List vw_C} {fty : Nat → Nat → FieldType} {fdef : Nat → List Value} {nL : Nat} {xi : xI} {pc pc1 : Nat} {L L' L1 : xL} {st st1 : List Value} {S S1 : xS} (h : xle L L') (h1 : xnd L) (h2 : xnd L') (hs : xst sc cl fty fdef nL xi pc L st S = some (pc1, L1, st1, S1)) : ∃ L1', xst sc cl fty fdef nL xi pc L' st S = some (pc1, L1', st1, S1) ∧ xle L1 L1' ∧ xnd L1 ∧ xnd L1' := by
  obtain ⟨ins, len, qa, qb, qz, qj⟩ := xi
  cases ins with
  | aload i => obtain ⟨t, ht, e⟩ := Option.map_eq_some_iff.mp hs; cases e; exact ⟨L', Option.map_eq_some_iff.mpr ⟨t, xldA_sub h ht, rfl⟩, h, h1, h2⟩
  | aload_n i => obtain ⟨t, ht, e⟩ := Option.map_eq_some_iff.mp hs; cases e; exact ⟨L', Option.map_eq_some_iff.mpr ⟨t, xldA_sub h ht, rfl⟩, h, h1, h2⟩
  | iload i => obtain ⟨t, ht, e⟩ := Option.map_eq_some_iff.mp hs; cases e; exact ⟨L', Option.map_eq_some_iff.mpr ⟨t, xldI_sub h ht, rfl⟩, h, h1, h2⟩
  | iload_n i => obtain ⟨t, ht, e⟩ := Option.map_eq_some_iff.mp hs; cases e; exact ⟨L', Option.map_eq_some_iff.mpr ⟨t, xldI_sub h ht, rfl⟩, h, h1, h2⟩
  | lload i => obtain ⟨t, ht, e⟩ := Option.map_eq_some_iff.mp hs; cases e; exact ⟨L', Option.map_eq_some_iff.mpr ⟨t, xldL_sub h ht, rfl⟩, h, h1, h2⟩
  | lload_n i => obtain ⟨t, ht, e⟩ := Option.map_eq_some_iff.mp hs; cases e; exact ⟨L', Option.map_eq_some_iff.mpr ⟨t, xldL_sub h ht, rfl⟩, h, h1, h2⟩
  | astore i => obtain ⟨⟨La, sa⟩, ht, e⟩ := Option.map_eq_some_iff.mp hs; cases e; obtain ⟨L9, a, b⟩ := xstA_sub h h1 h2 ht; exact ⟨L9, Option.map_eq_some_iff.mpr ⟨_, a, rfl⟩, b⟩
  | astore_n i => obtain ⟨⟨La, sa⟩, ht, e⟩ := Option.map_eq_some_iff.mp hs; cases e; obtain ⟨L9, a, b⟩ := xstA_sub h h1 h2 ht; exact ⟨L9, Option.map_eq_some_iff.mpr ⟨_, a, rfl⟩, b⟩
  | istore i => obtain ⟨⟨La, sa⟩, ht, e⟩ := Option.map_eq_some_iff.mp hs; cases e; obtain ⟨L9, a, b⟩ := xstI_sub h h1 h2 ht; exact ⟨L9, Option.map_eq_some_iff.mpr ⟨_, a, rfl⟩, b⟩
  | istore_n i => obtain ⟨⟨La, sa⟩, ht, e⟩ := Option.map_eq_some_iff.mp hs; cases e; obtain ⟨L9, a, b⟩ := xstI_sub h h1 h2 ht; exact ⟨L9, Option.map_eq_some_iff.mpr ⟨_, a, rfl⟩, b⟩
  | lstore i => obtain ⟨⟨La, sa⟩, ht, e⟩ := Option.map_eq_some_iff.mp hs; cases e; obtain ⟨L9, a, b⟩ := xstL_sub h h1 h2 ht; exact ⟨L9, Option.map_eq_some_iff.mpr ⟨_, a, rfl⟩, b⟩
  | lstore_n i => obtain ⟨⟨La, sa⟩, ht, e⟩ := Option.map_eq_some_iff.mp hs; cases e; obtain ⟨L9, a, b⟩ := xstL_sub h h1 h2 ht; exact ⟨L9, Option.map_eq_some_iff.mpr ⟨_, a, rfl⟩, b⟩
  | iinc i z =>
    unfold xst at hs ⊢
    dsimp only at hs ⊢
    split at hs
    · rename_i x hx
      rw [h i _ hx]
      dsimp only
      split at hs
      · rename_i hi
        cases hs
        exact ⟨_, by rw [if_pos hi]; rfl, xle_cons _ (xle_filter h h1 h2), xnd_sto1 h1, xnd_sto1 h2⟩
      · cases hs
    · cases hs
  | aconst_null => cases hs; exact ⟨L', rfl, h, h1, h2⟩
  | iconst z => cases hs; exact ⟨L', rfl, h, h1, h2⟩
  | bipush z => cases hs; exact ⟨L', rfl, h, h1, h2⟩
  | sipush z => cases hs; exact ⟨L', rfl, h, h1, h2⟩
  | lconst z => cases hs; exact ⟨L', rfl, h, h1, h2⟩
  | ldc z => cases hs; exact ⟨L', rfl, h, h1, h2⟩
  | ldc_w z => cases hs; exact ⟨L', rfl, h, h1, h2⟩
  | ldc2_w z => cases hs; exact ⟨L', rfl, h, h1, h2⟩
  | dup =>
    unfold xst at hs ⊢
    dsimp only at hs ⊢
    split at hs
    · split at hs
      · rename_i hc; cases hs; exact ⟨L', by rw [if_pos hc], h, h1, h2⟩
      · cases hs
    · cases hs
  | dup2 =>
    unfold xst at hs ⊢
    dsimp only at hs ⊢
    split at hs
    · split at hs
      · rename_i hc; cases hs; exact ⟨L', by rw [if_pos hc], h, h1, h2⟩
      · cases hs
    · cases hs
  | pop =>
    unfold xst at hs ⊢
    dsimp only at hs ⊢
    split at hs
    · split at hs
      · rename_i hc; cases hs; exact ⟨L', by rw [if_pos hc], h, h1, h2⟩
      · cases hs
    · cases hs
  | anewarray z =>
    unfold xst at hs ⊢
    dsimp only at hs ⊢
    split at hs
    · obtain ⟨t, ht, e⟩ := Option.map_eq_some_iff.mp hs; cases e; exact ⟨L', Option.map_eq_some_iff.mpr ⟨_, ht, rfl⟩, h, h1, h2⟩
    · cases hs
  | new z =>
    unfold xst at hs ⊢
    dsimp only at hs ⊢
    split at hs
    · obtain ⟨t, ht, e⟩ := Option.map_eq_some_iff.mp hs; cases e; exact ⟨L', Option.map_eq_some_iff.mpr ⟨_, ht, rfl⟩, h, h1, h2⟩
    · cases hs
  | invokestatic z =>
    unfold xst at hs ⊢
    dsimp only at hs ⊢
    split at hs
    · cases hs
    · rename_i hc
      rw [if_neg hc]
      obtain ⟨t, ht, e⟩ := Option.map_eq_some_iff.mp hs; cases e; exact ⟨L', Option.map_eq_some_iff.mpr ⟨_, ht, rfl⟩, h, h1, h2⟩
  | invokespecial z =>
    unfold xst at hs ⊢
    dsimp only at hs ⊢
    split at hs
    · rename_i hc
      rw [if_pos hc]
      obtain ⟨t, ht, e⟩ := Option.map_eq_some_iff.mp hs; cases e; exact ⟨L', Option.map_eq_some_iff.mpr ⟨_, ht, rfl⟩, h, h1, h2⟩
    · cases hs
  | _ => first
    | (cases hs; done)
    | (obtain ⟨t, ht, e⟩ := Option.map_eq_some_iff.mp hs; cases e; exact ⟨L', Option.map_eq_some_iff.mpr ⟨_, ht, rfl⟩, h, h1, h2⟩)
theorem xhp_sub {M : xM} {hp pc1 : Nat} {L L' L1 : xL} (h : xle L L') (h1 : xnd L) (h2 : xnd L') (hs : xhp M hp L = some (pc1, L1)) : ∃ L1', xhp M hp L' = some (pc1, L1') ∧ xle L1 L1' ∧ xnd L1 ∧ xnd L1' := by
  unfold xhp at hs ⊢
  split at hs
  · rename_i xi hx
    split at hs
    · rename_i hl
      split at hs
      · rename_i i hi
        split at hs
        · rename_i hlt
          cases hs
          refine ⟨xfil L' i, ?_, xle_filter h h1 h2, xnd_filter h1, xnd_filter h2⟩
          try rw [hx]
          try dsimp only
          try rw [if_pos hl]
          try rw [hi]
          try dsimp only
          try rw [if_pos hlt]
        · cases hs
      · rename_i i hi
        split at hs
        · rename_i hlt
          cases hs
          refine ⟨xfil L' i.val, ?_, xle_filter h h1 h2, xnd_filter h1, xnd_filter h2⟩
          try rw [hx]
          try dsimp only
          try rw [if_pos hl]
          try rw [hi]
          try dsimp only
          try rw [if_pos hlt]
        · cases hs
      · cases hs
    · cases hs
  · cases hs
theorem xrun_sub {sc : xSc} {cl : List vw_C} {fty : Nat → Nat → FieldType} {fdef : Nat → List Value} {ck : Nat → Option Nat} {prog : List xM} {M : xM} {ex : Nat → List Value → xS → Option (xO × xS)} :
    ∀ (f pc : Nat) (L L' : xL) (st : List Value) (S : xS) (r : xO × xS), xle L L' → xnd L → xnd L' → xrun sc cl fty fdef ck prog M ex f pc L st S = some r → xrun sc cl fty fdef ck prog M ex f pc L' st S = some r := by
  intro f
  induction f with
  | zero => intro pc L L' st S r _ _ _ h; cases h
  | succ f ih =>
    intro pc L L' st S r hle hn hn' h
    unfold xrun at h ⊢
    split at h
    · rename_i xi hat
      try rw [hat]
      try dsimp only
      split at h
      · rename_i hlen
        try rw [if_pos hlen]
        split at h
        · rename_i v hv
          try rw [hv]
          exact h
        · rename_i hv
          try rw [hv]
          try dsimp only
          split at h
          · rename_i vs r9 hcal
            try rw [hcal]
            try dsimp only
            split at h
            · rename_i v S1 hx
              try rw [hx]
              try dsimp only
              exact ih _ _ _ _ _ _ hle hn hn' h
            · rename_i k S1 hx
              try rw [hx]
              try dsimp only
              split at h
              · cases h
              · rename_i hsp
                try rw [if_neg hsp]
                split at h
                · rename_i hhs
                  try rw [hhs]
                  exact h
                · rename_i hhs
                  split at h
                  · rename_i hp hh
                    split at h
                    · rename_i pc' L1 hhp
                      obtain ⟨L1', a1, a2, a3, a4⟩ := xhp_sub hle hn hn' hhp
                      cases hq : xhs M with
                      | nil => exact absurd hq hhs
                      | cons q1 q2 =>
                        rw [hq] at hh
                        try dsimp only
                        try rw [hh]
                        try dsimp only
                        try rw [a1]
                        try dsimp only
                        exact ih _ _ _ _ _ _ a2 a3 a4 h
                    · cases h
                  · cases h
            · cases h
          · rename_i hcal
            try rw [hcal]
            try dsimp only
            split at h
            · rename_i k S1 ht
              try rw [ht]
              exact h
            · rename_i ht
              try rw [ht]
              try dsimp only
              split at h
              · rename_i pc' L1 st' S1 hst
                obtain ⟨L1', a1, a2, a3, a4⟩ := xst_sub hle hn hn' hst
                try rw [a1]
                try dsimp only
                exact ih _ _ _ _ _ _ a2 a3 a4 h
              · cases h
      · cases h
    · cases h
theorem xN_sub {P : xPk} {sc : xSc} {M : xM} {pc : Nat} {L L' : xL} {st : List Value} {S S' : xS} {o : xO} (hle : xle L L') (hn : xnd L) (hn' : xnd L') (h : xN P sc M pc L st S o S') : xN P sc M pc L' st S o S' := by
  obtain ⟨d, F, f, h⟩ := h
  exact ⟨d, F, f, xrun_sub f pc L L' st S _ hle hn hn' h⟩
