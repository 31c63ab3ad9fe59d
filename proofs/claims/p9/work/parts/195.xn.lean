/-! Runs of the small machine, without counting: the rows by which they are put together. -/
abbrev xPk : Type := List vw_C × (Nat → Nat → FieldType) × (Nat → List Value) × (Nat → Option Nat) × List xM
def xrn (P : xPk) (sc : xSc) (M : xM) (ex : Nat → List Value → xS → Option (xO × xS)) (f pc : Nat) (L : xL) (st : List Value) (S : xS) : Option (xO × xS) := xrun sc P.1 P.2.1 P.2.2.1 P.2.2.2.1 P.2.2.2.2 M ex f pc L st S
def xen (P : xPk) (sc : xSc) (d F a : Nat) (vs : List Value) (S : xS) : Option (xO × xS) := xex sc P.1 P.2.1 P.2.2.1 P.2.2.2.1 P.2.2.2.2 d F a vs S
/-- from here the body comes to o -/
def xN (P : xPk) (sc : xSc) (M : xM) (pc : Nat) (L : xL) (st : List Value) (S : xS) (o : xO) (S' : xS) : Prop := ∃ d F f, xrn P sc M (xen P sc d F) f pc L st S = some (o, S')
/-- the method number a, called with vs, comes to o -/
def xX (P : xPk) (sc : xSc) (a : Nat) (vs : List Value) (S : xS) (o : xO) (S' : xS) : Prop := ∃ d F, xen P sc d F a vs S = some (o, S')
theorem xrun_le {sc : xSc} {cl : List vw_C} {fty : Nat → Nat → FieldType} {fdef : Nat → List Value} {ck : Nat → Option Nat} {prog : List xM} {M : xM} {ex ex' : Nat → List Value → xS → Option (xO × xS)} (he : ∀ a vs S r, ex a vs S = some r → ex' a vs S = some r) :
    ∀ (f pc : Nat) (L : xL) (st : List Value) (S : xS) (r : xO × xS), xrun sc cl fty fdef ck prog M ex f pc L st S = some r → ∀ f' : Nat, f ≤ f' → xrun sc cl fty fdef ck prog M ex' f' pc L st S = some r := by
  intro f
  induction f with
  | zero => intro pc L st S r h; cases h
  | succ f ih =>
    intro pc L st S r h f' hf
    obtain ⟨g, rfl⟩ : ∃ g, f' = g + 1 := ⟨f' - 1, by omega⟩
    have hg : f ≤ g := by omega
    unfold xrun at h ⊢
    split at h
    · rename_i xi hat
      try rw [hat]
      try dsimp only
      split at h
      · rename_i hlen
        try rw [if_pos hlen]
        split at h
        · rename_i v hv
          try rw [hv]
          exact h
        · rename_i hv
          try rw [hv]
          try dsimp only
          split at h
          · rename_i vs r9 hcal
            try rw [hcal]
            try dsimp only
            split at h
            · rename_i v S1 hx
              try rw [he _ _ _ _ hx]
              try dsimp only
              exact ih _ _ _ _ _ h _ hg
            · rename_i k S1 hx
              try rw [he _ _ _ _ hx]
              try dsimp only
              split at h
              · cases h
              · rename_i hsp
                try rw [if_neg hsp]
                split at h
                · rename_i hhs
                  try rw [hhs]
                  exact h
                · rename_i hhs
                  split at h
                  · rename_i hp hh
                    split at h
                    · rename_i pc' L' hhp
                      cases hq : xhs M with
                      | nil => exact absurd hq hhs
                      | cons q1 q2 =>
                        rw [hq] at hh
                        try dsimp only
                        try rw [hh]
                        try dsimp only
                        try rw [hhp]
                        try dsimp only
                        exact ih _ _ _ _ _ h _ hg
                    · cases h
                  · cases h
            · cases h
          · rename_i hcal
            try rw [hcal]
            try dsimp only
            split at h
            · rename_i k S1 ht
              try rw [ht]
              exact h
            · rename_i ht
              try rw [ht]
              try dsimp only
              split at h
              · rename_i pc' L' st' S1 hst
                try rw [hst]
                try dsimp only
                exact ih _ _ _ _ _ h _ hg
              · cases h
      · cases h
    · cases h
theorem xen_le {P : xPk} {sc : xSc} : ∀ (d F a : Nat) (vs : List Value) (S : xS) (r : xO × xS), xen P sc d F a vs S = some r → ∀ d' F' : Nat, d ≤ d' → F ≤ F' → xen P sc d' F' a vs S = some r := by
  intro d
  induction d with
  | zero => intro F a vs S r h; cases h
  | succ d ih =>
    intro F a vs S r h d' F' hd hF
    obtain ⟨g, rfl⟩ : ∃ g, d' = g + 1 := ⟨d' - 1, by omega⟩
    unfold xen xex at h ⊢
    split at h
    · rename_i M hM
      try rw [hM]
      try dsimp only
      split at h
      · rename_i hsl
        try rw [if_pos hsl]
        exact xrun_le (fun a vs S r h9 => ih F a vs S r h9 g F' (by omega) hF) _ _ _ _ _ _ h _ hF
      · cases h
    · cases h
theorem xrn_le {P : xPk} {sc : xSc} {M : xM} {d F f pc : Nat} {L : xL} {st : List Value} {S : xS} {r : xO × xS} (h : xrn P sc M (xen P sc d F) f pc L st S = some r) {d' F' f' : Nat} (hd : d ≤ d') (hF : F ≤ F') (hf : f ≤ f') : xrn P sc M (xen P sc d' F') f' pc L st S = some r :=
  xrun_le (fun a vs S r h9 => xen_le d F a vs S r h9 d' F' hd hF) f pc L st S r h f' hf
def xinv : Instr → Bool
  | .invokestatic _ => true
  | .invokevirtual _ => true
  | .invokespecial _ => true
  | _ => false
theorem xcal_ni {prog : List xM} {xi : xI} {st : List Value} {S : xS} (h : xinv xi.1 = false) : xcal prog xi st S = none := by
  unfold xcal
  split
  · unfold xargs
    split
    · split
      · rename_i hi; rw [hi] at h; cases h
      · rename_i hi; rw [hi] at h; cases h
      · rename_i hi; rw [hi] at h; cases h
      · rfl
    · rfl
  · rfl
/-- an instruction that is no call of ours -/
theorem xn_step {P : xPk} {sc : xSc} {M : xM} {pc pc' : Nat} {L L' : xL} {st st' : List Value} {S S1 S' : xS} {o : xO} {xi : xI} (hat : (xcd M)[pc]? = some (some xi)) (hlen : xi.2.1 = xlenOf xi.1 xi.2.1) (hne : xend M xi.1 st = none) (hcal : xcal P.2.2.2.2 xi st S = none) (hthr : xthr M xi st S = none)
    (hst : xst sc P.1 P.2.1 P.2.2.1 (xmx M) xi pc L st S = some (pc', L', st', S1)) (h : xN P sc M pc' L' st' S1 o S') : xN P sc M pc L st S o S' := by
  obtain ⟨d, F, f, h⟩ := h
  refine ⟨d, F, f + 1, ?_⟩
  unfold xrn xrun
  rw [hat]
  dsimp only
  rw [if_pos hlen, hne]
  dsimp only
  rw [hcal]
  dsimp only
  rw [hthr]
  dsimp only
  rw [hst]
  exact h
/-- an answer -/
theorem xn_ret {P : xPk} {sc : xSc} {M : xM} {pc : Nat} {L : xL} {st : List Value} {S : xS} {xi : xI} {v : Option Value} (hat : (xcd M)[pc]? = some (some xi)) (hlen : xi.2.1 = xlenOf xi.1 xi.2.1) (hne : xend M xi.1 st = some v) : xN P sc M pc L st S (.inl v) S := by
  refine ⟨0, 0, 1, ?_⟩
  unfold xrn xrun
  rw [hat]
  dsimp only
  rw [if_pos hlen, hne]
/-- a call that answers -/
theorem xn_call {P : xPk} {sc : xSc} {M : xM} {pc : Nat} {L : xL} {st vs r : List Value} {S S1 S' : xS} {o : xO} {xi : xI} {v : Option Value} (hat : (xcd M)[pc]? = some (some xi)) (hlen : xi.2.1 = xlenOf xi.1 xi.2.1) (hne : xend M xi.1 st = none) (hcal : xcal P.2.2.2.2 xi st S = some (vs, r))
    (hx : xX P sc xi.2.2.1 vs S (.inl v) S1) (h : xN P sc M (pc + 3) L (v.toList ++ r) S1 o S') : xN P sc M pc L st S o S' := by
  obtain ⟨d1, F1, hx⟩ := hx
  obtain ⟨d, F, f, h⟩ := h
  refine ⟨max d1 d, max F1 F, f + 1, ?_⟩
  have hx := xen_le _ _ _ _ _ _ hx (max d1 d) (max F1 F) (Nat.le_max_left _ _) (Nat.le_max_left _ _)
  have h := xrn_le h (Nat.le_max_right d1 d) (Nat.le_max_right F1 F) (Nat.le_refl f)
  unfold xrn xrun
  rw [hat]
  dsimp only
  rw [if_pos hlen, hne]
  dsimp only
  rw [hcal]
  dsimp only
  rw [hx]
  exact h
/-- a call that throws, and this body has no handlers -/
theorem xn_thru {P : xPk} {sc : xSc} {M : xM} {pc : Nat} {L : xL} {st vs r : List Value} {S S1 : xS} {k : Nat} {xi : xI} (hat : (xcd M)[pc]? = some (some xi)) (hlen : xi.2.1 = xlenOf xi.1 xi.2.1) (hne : xend M xi.1 st = none) (hcal : xcal P.2.2.2.2 xi st S = some (vs, r))
    (hsp : ¬ (xisp xi.1 = true ∨ xcH P.2.2.2.2 xi = false)) (hhs : xhs M = []) (hx : xX P sc xi.2.2.1 vs S (.inr k) S1) : xN P sc M pc L st S (.inr k) S1 := by
  obtain ⟨d1, F1, hx⟩ := hx
  refine ⟨d1, F1, 1, ?_⟩
  unfold xrn xrun
  rw [hat]
  dsimp only
  rw [if_pos hlen, hne]
  dsimp only
  rw [hcal]
  dsimp only
  rw [hx]
  dsimp only
  rw [if_neg hsp, hhs]
/-- a call that throws, caught by a handler of this body -/
theorem xn_catch {P : xPk} {sc : xSc} {M : xM} {pc hp pc' : Nat} {L L' : xL} {st vs r : List Value} {S S1 S' : xS} {o : xO} {k : Nat} {xi : xI} {q1 : Nat × Nat × Nat × Nat} {q2 : List (Nat × Nat × Nat × Nat)} (hat : (xcd M)[pc]? = some (some xi)) (hlen : xi.2.1 = xlenOf xi.1 xi.2.1) (hne : xend M xi.1 st = none) (hcal : xcal P.2.2.2.2 xi st S = some (vs, r))
    (hsp : ¬ (xisp xi.1 = true ∨ xcH P.2.2.2.2 xi = false)) (hhs : xhs M = q1 :: q2) (hh : xhand P.2.2.2.1 (xhs M) pc k = some hp) (hhp : xhp M hp L = some (pc', L')) (hx : xX P sc xi.2.2.1 vs S (.inr k) S1) (h : xN P sc M pc' L' [] S1 o S') : xN P sc M pc L st S o S' := by
  obtain ⟨d1, F1, hx⟩ := hx
  obtain ⟨d, F, f, h⟩ := h
  refine ⟨max d1 d, max F1 F, f + 1, ?_⟩
  have hx := xen_le _ _ _ _ _ _ hx (max d1 d) (max F1 F) (Nat.le_max_left _ _) (Nat.le_max_left _ _)
  have h := xrn_le h (Nat.le_max_right d1 d) (Nat.le_max_right F1 F) (Nat.le_refl f)
  unfold xrn xrun
  rw [hat]
  dsimp only
  rw [if_pos hlen, hne]
  dsimp only
  rw [hcal]
  dsimp only
  rw [hx]
  dsimp only
  rw [if_neg hsp]
  rw [hhs] at hh ⊢
  dsimp only
  rw [hh]
  dsimp only
  rw [hhp]
  exact h
/-- 'throw new' -/
theorem xn_throw {P : xPk} {sc : xSc} {M : xM} {pc : Nat} {L : xL} {st : List Value} {S S1 : xS} {k : Nat} {xi : xI} (hat : (xcd M)[pc]? = some (some xi)) (hlen : xi.2.1 = xlenOf xi.1 xi.2.1) (hne : xend M xi.1 st = none) (hcal : xcal P.2.2.2.2 xi st S = none) (hthr : xthr M xi st S = some (k, S1)) : xN P sc M pc L st S (.inr k) S1 := by
  refine ⟨0, 0, 1, ?_⟩
  unfold xrn xrun
  rw [hat]
  dsimp only
  rw [if_pos hlen, hne]
  dsimp only
  rw [hcal]
  dsimp only
  rw [hthr]
theorem xX_of {P : xPk} {sc : xSc} {a : Nat} {M : xM} {vs : List Value} {S S' : xS} {o : xO} (hM : P.2.2.2.2[a]? = some M) (hw : xw vs ≤ xmx M) (h : xN P sc M 0 (lv_args 0 vs) [] S o S') : xX P sc a vs S o S' := by
  obtain ⟨d, F, f, h⟩ := h
  refine ⟨d + 1, max F f, ?_⟩
  have h := xrn_le h (Nat.le_refl d) (Nat.le_max_left F f) (Nat.le_max_right F f)
  unfold xen xex
  rw [hM]
  dsimp only
  rw [if_pos hw]
  exact h
/-! A run that needs no script is a run with any. -/
def xnosc : xSc := (0, fun _ => 0)
set_option maxHeartbeats 4000000 in
theorem xst_sc {sc : xSc} {cl : List vw_C} {fty : Nat → Nat → FieldType} {fdef : Nat → List Value} {nL : Nat} {xi : xI} {pc : Nat} {L : xL} {st : List Value} {S : xS} {fr : xF} (h : xst xnosc cl fty fdef nL xi pc L st S = some fr) : xst sc cl fty fdef nL xi pc L st S = some fr := by
  obtain ⟨ins, len, qa, qb, qz, qj⟩ := xi
  cases ins with
  | iaload =>
    obtain ⟨t, ht, e⟩ := Option.map_eq_some_iff.mp h
    refine Option.map_eq_some_iff.mpr ⟨t, ?_, e⟩
    rcases xiald_inv ht with ⟨i, a, r, n, f, rfl, ha, hi, rfl⟩ | ⟨i, a, r, -, hi, -⟩
    · unfold xiald
      dsimp only
      rw [ha]
      dsimp only
      rw [if_pos hi]
    · unfold xin xnosc at hi
      simp at hi
  | arraylength =>
    obtain ⟨t, ht, e⟩ := Option.map_eq_some_iff.mp h
    refine Option.map_eq_some_iff.mpr ⟨t, ?_, e⟩
    rcases xlen_inv ht with ⟨a, r, ty, x, rfl, ha, rfl⟩ | ⟨a, r, -, h0, -⟩
    · unfold xlen
      dsimp only
      rw [ha]
    · exact absurd rfl h0
  | _ => exact h
theorem xrun_sc {sc : xSc} {cl : List vw_C} {fty : Nat → Nat → FieldType} {fdef : Nat → List Value} {ck : Nat → Option Nat} {prog : List xM} {M : xM} {ex ex' : Nat → List Value → xS → Option (xO × xS)} (he : ∀ a vs S r, ex a vs S = some r → ex' a vs S = some r) :
    ∀ (f pc : Nat) (L : xL) (st : List Value) (S : xS) (r : xO × xS), xrun xnosc cl fty fdef ck prog M ex f pc L st S = some r → xrun sc cl fty fdef ck prog M ex' f pc L st S = some r := by
  intro f
  induction f with
  | zero => intro pc L st S r h; cases h
  | succ f ih =>
    intro pc L st S r h
    unfold xrun at h ⊢
    split at h
    · rename_i xi hat
      try rw [hat]
      try dsimp only
      split at h
      · rename_i hlen
        try rw [if_pos hlen]
        split at h
        · rename_i v hv
          try rw [hv]
          exact h
        · rename_i hv
          try rw [hv]
          try dsimp only
          split at h
          · rename_i vs r9 hcal
            try rw [hcal]
            try dsimp only
            split at h
            · rename_i v S1 hx
              try rw [he _ _ _ _ hx]
              try dsimp only
              exact ih _ _ _ _ _ h
            · rename_i k S1 hx
              try rw [he _ _ _ _ hx]
              try dsimp only
              split at h
              · cases h
              · rename_i hsp
                try rw [if_neg hsp]
                split at h
                · rename_i hhs
                  try rw [hhs]
                  exact h
                · rename_i hhs
                  split at h
                  · rename_i hp hh
                    split at h
                    · rename_i pc' L' hhp
                      cases hq : xhs M with
                      | nil => exact absurd hq hhs
                      | cons q1 q2 =>
                        rw [hq] at hh
                        try dsimp only
                        try rw [hh]
                        try dsimp only
                        try rw [hhp]
                        try dsimp only
                        exact ih _ _ _ _ _ h
                    · cases h
                  · cases h
            · cases h
          · rename_i hcal
            try rw [hcal]
            try dsimp only
            split at h
            · rename_i k S1 ht
              try rw [ht]
              exact h
            · rename_i ht
              try rw [ht]
              try dsimp only
              split at h
              · rename_i pc' L' st' S1 hst
                try rw [xst_sc hst]
                try dsimp only
                exact ih _ _ _ _ _ h
              · cases h
      · cases h
    · cases h
theorem xen_sc {P : xPk} {sc : xSc} {F : Nat} : ∀ (d a : Nat) (vs : List Value) (S : xS) (r : xO × xS), xen P xnosc d F a vs S = some r → xen P sc d F a vs S = some r := by
  intro d
  induction d with
  | zero => intro a vs S r h; cases h
  | succ d ih =>
    intro a vs S r h
    unfold xen xex at h ⊢
    split at h
    · rename_i M hM
      try rw [hM]
      try dsimp only
      split at h
      · rename_i hsl
        try rw [if_pos hsl]
        exact xrun_sc (fun a vs S r h9 => ih a vs S r h9) _ _ _ _ _ _ h
      · cases h
    · cases h
