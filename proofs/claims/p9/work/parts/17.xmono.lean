/-! How the counts go: a step, a run, a method never take cells away. -/
set_option maxHeartbeats 4000000 in
set_option maxRecDepth 100000 in
theorem xst_mono {sc : xSc} {cl : List vw_C} {fty : Nat → Nat → FieldType} {fdef : Nat → List Value} {nL : Nat} {xi : xI} {pc : Nat} {L : xL} {st : List Value} {S : xS} {fr : xF} (h : xst sc cl fty fdef nL xi pc L st S = some fr) : S.1 ≤ fr.2.2.2.1 ∧ S.2.1 ≤ fr.2.2.2.2.1 := by
  obtain ⟨ins, len, qa, qb, qz, qj⟩ := xi
  cases ins with
  | aconst_null =>
    cases h
    exact ⟨Nat.le_refl _, Nat.le_refl _⟩
  | iconst n =>
    cases h
    exact ⟨Nat.le_refl _, Nat.le_refl _⟩
  | bipush n =>
    cases h
    exact ⟨Nat.le_refl _, Nat.le_refl _⟩
  | sipush n =>
    cases h
    exact ⟨Nat.le_refl _, Nat.le_refl _⟩
  | lconst n =>
    cases h
    exact ⟨Nat.le_refl _, Nat.le_refl _⟩
  | ldc n =>
    cases h
    exact ⟨Nat.le_refl _, Nat.le_refl _⟩
  | ldc_w n =>
    cases h
    exact ⟨Nat.le_refl _, Nat.le_refl _⟩
  | ldc2_w n =>
    cases h
    exact ⟨Nat.le_refl _, Nat.le_refl _⟩
  | aload i =>
    obtain ⟨_, _, rfl⟩ := Option.map_eq_some_iff.mp h
    exact ⟨Nat.le_refl _, Nat.le_refl _⟩
  | aload_n i =>
    obtain ⟨_, _, rfl⟩ := Option.map_eq_some_iff.mp h
    exact ⟨Nat.le_refl _, Nat.le_refl _⟩
  | iload i =>
    obtain ⟨_, _, rfl⟩ := Option.map_eq_some_iff.mp h
    exact ⟨Nat.le_refl _, Nat.le_refl _⟩
  | iload_n i =>
    obtain ⟨_, _, rfl⟩ := Option.map_eq_some_iff.mp h
    exact ⟨Nat.le_refl _, Nat.le_refl _⟩
  | lload i =>
    obtain ⟨_, _, rfl⟩ := Option.map_eq_some_iff.mp h
    exact ⟨Nat.le_refl _, Nat.le_refl _⟩
  | lload_n i =>
    obtain ⟨_, _, rfl⟩ := Option.map_eq_some_iff.mp h
    exact ⟨Nat.le_refl _, Nat.le_refl _⟩
  | astore i =>
    obtain ⟨_, _, rfl⟩ := Option.map_eq_some_iff.mp h
    exact ⟨Nat.le_refl _, Nat.le_refl _⟩
  | astore_n i =>
    obtain ⟨_, _, rfl⟩ := Option.map_eq_some_iff.mp h
    exact ⟨Nat.le_refl _, Nat.le_refl _⟩
  | istore i =>
    obtain ⟨_, _, rfl⟩ := Option.map_eq_some_iff.mp h
    exact ⟨Nat.le_refl _, Nat.le_refl _⟩
  | istore_n i =>
    obtain ⟨_, _, rfl⟩ := Option.map_eq_some_iff.mp h
    exact ⟨Nat.le_refl _, Nat.le_refl _⟩
  | lstore i =>
    obtain ⟨_, _, rfl⟩ := Option.map_eq_some_iff.mp h
    exact ⟨Nat.le_refl _, Nat.le_refl _⟩
  | lstore_n i =>
    obtain ⟨_, _, rfl⟩ := Option.map_eq_some_iff.mp h
    exact ⟨Nat.le_refl _, Nat.le_refl _⟩
  | iadd =>
    obtain ⟨_, _, rfl⟩ := Option.map_eq_some_iff.mp h
    exact ⟨Nat.le_refl _, Nat.le_refl _⟩
  | isub =>
    obtain ⟨_, _, rfl⟩ := Option.map_eq_some_iff.mp h
    exact ⟨Nat.le_refl _, Nat.le_refl _⟩
  | imul =>
    obtain ⟨_, _, rfl⟩ := Option.map_eq_some_iff.mp h
    exact ⟨Nat.le_refl _, Nat.le_refl _⟩
  | iand =>
    obtain ⟨_, _, rfl⟩ := Option.map_eq_some_iff.mp h
    exact ⟨Nat.le_refl _, Nat.le_refl _⟩
  | ior =>
    obtain ⟨_, _, rfl⟩ := Option.map_eq_some_iff.mp h
    exact ⟨Nat.le_refl _, Nat.le_refl _⟩
  | ixor =>
    obtain ⟨_, _, rfl⟩ := Option.map_eq_some_iff.mp h
    exact ⟨Nat.le_refl _, Nat.le_refl _⟩
  | ishl =>
    obtain ⟨_, _, rfl⟩ := Option.map_eq_some_iff.mp h
    exact ⟨Nat.le_refl _, Nat.le_refl _⟩
  | ishr =>
    obtain ⟨_, _, rfl⟩ := Option.map_eq_some_iff.mp h
    exact ⟨Nat.le_refl _, Nat.le_refl _⟩
  | iushr =>
    obtain ⟨_, _, rfl⟩ := Option.map_eq_some_iff.mp h
    exact ⟨Nat.le_refl _, Nat.le_refl _⟩
  | idiv =>
    obtain ⟨_, _, rfl⟩ := Option.map_eq_some_iff.mp h
    exact ⟨Nat.le_refl _, Nat.le_refl _⟩
  | irem =>
    obtain ⟨_, _, rfl⟩ := Option.map_eq_some_iff.mp h
    exact ⟨Nat.le_refl _, Nat.le_refl _⟩
  | ineg =>
    obtain ⟨_, _, rfl⟩ := Option.map_eq_some_iff.mp h
    exact ⟨Nat.le_refl _, Nat.le_refl _⟩
  | i2l =>
    obtain ⟨_, _, rfl⟩ := Option.map_eq_some_iff.mp h
    exact ⟨Nat.le_refl _, Nat.le_refl _⟩
  | l2i =>
    obtain ⟨_, _, rfl⟩ := Option.map_eq_some_iff.mp h
    exact ⟨Nat.le_refl _, Nat.le_refl _⟩
  | land =>
    obtain ⟨_, _, rfl⟩ := Option.map_eq_some_iff.mp h
    exact ⟨Nat.le_refl _, Nat.le_refl _⟩
  | lor =>
    obtain ⟨_, _, rfl⟩ := Option.map_eq_some_iff.mp h
    exact ⟨Nat.le_refl _, Nat.le_refl _⟩
  | lxor =>
    obtain ⟨_, _, rfl⟩ := Option.map_eq_some_iff.mp h
    exact ⟨Nat.le_refl _, Nat.le_refl _⟩
  | lmul =>
    obtain ⟨_, _, rfl⟩ := Option.map_eq_some_iff.mp h
    exact ⟨Nat.le_refl _, Nat.le_refl _⟩
  | lcmp =>
    obtain ⟨_, _, rfl⟩ := Option.map_eq_some_iff.mp h
    exact ⟨Nat.le_refl _, Nat.le_refl _⟩
  | lshl =>
    obtain ⟨_, _, rfl⟩ := Option.map_eq_some_iff.mp h
    exact ⟨Nat.le_refl _, Nat.le_refl _⟩
  | lshr =>
    obtain ⟨_, _, rfl⟩ := Option.map_eq_some_iff.mp h
    exact ⟨Nat.le_refl _, Nat.le_refl _⟩
  | lushr =>
    obtain ⟨_, _, rfl⟩ := Option.map_eq_some_iff.mp h
    exact ⟨Nat.le_refl _, Nat.le_refl _⟩
  | goto off =>
    obtain ⟨_, _, rfl⟩ := Option.map_eq_some_iff.mp h
    exact ⟨Nat.le_refl _, Nat.le_refl _⟩
  | ifCond c off =>
    obtain ⟨_, _, rfl⟩ := Option.map_eq_some_iff.mp h
    exact ⟨Nat.le_refl _, Nat.le_refl _⟩
  | if_icmp c off =>
    obtain ⟨_, _, rfl⟩ := Option.map_eq_some_iff.mp h
    exact ⟨Nat.le_refl _, Nat.le_refl _⟩
  | ifnull off =>
    obtain ⟨_, _, rfl⟩ := Option.map_eq_some_iff.mp h
    exact ⟨Nat.le_refl _, Nat.le_refl _⟩
  | ifnonnull off =>
    obtain ⟨_, _, rfl⟩ := Option.map_eq_some_iff.mp h
    exact ⟨Nat.le_refl _, Nat.le_refl _⟩
  | tableswitch a b c d =>
    obtain ⟨_, _, rfl⟩ := Option.map_eq_some_iff.mp h
    exact ⟨Nat.le_refl _, Nat.le_refl _⟩
  | lookupswitch a b =>
    obtain ⟨_, _, rfl⟩ := Option.map_eq_some_iff.mp h
    exact ⟨Nat.le_refl _, Nat.le_refl _⟩
  | iaload =>
    obtain ⟨_, _, rfl⟩ := Option.map_eq_some_iff.mp h
    exact ⟨Nat.le_refl _, Nat.le_refl _⟩
  | baload =>
    obtain ⟨_, _, rfl⟩ := Option.map_eq_some_iff.mp h
    exact ⟨Nat.le_refl _, Nat.le_refl _⟩
  | laload =>
    obtain ⟨_, _, rfl⟩ := Option.map_eq_some_iff.mp h
    exact ⟨Nat.le_refl _, Nat.le_refl _⟩
  | aaload =>
    obtain ⟨_, _, rfl⟩ := Option.map_eq_some_iff.mp h
    exact ⟨Nat.le_refl _, Nat.le_refl _⟩
  | arraylength =>
    obtain ⟨_, _, rfl⟩ := Option.map_eq_some_iff.mp h
    exact ⟨Nat.le_refl _, Nat.le_refl _⟩
  | getfield i =>
    obtain ⟨_, _, rfl⟩ := Option.map_eq_some_iff.mp h
    exact ⟨Nat.le_refl _, Nat.le_refl _⟩
  | iinc i n =>
    unfold xst at h
    dsimp only at h
    split at h
    · split at h
      · cases h; exact ⟨Nat.le_refl _, Nat.le_refl _⟩
      · cases h
    · cases h
  | dup =>
    unfold xst at h
    dsimp only at h
    split at h
    · split at h
      · cases h; exact ⟨Nat.le_refl _, Nat.le_refl _⟩
      · cases h
    · cases h
  | pop =>
    unfold xst at h
    dsimp only at h
    split at h
    · split at h
      · cases h; exact ⟨Nat.le_refl _, Nat.le_refl _⟩
      · cases h
    · cases h
  | dup2 =>
    unfold xst at h
    dsimp only at h
    split at h
    · split at h
      · cases h; exact ⟨Nat.le_refl _, Nat.le_refl _⟩
      · cases h
    · cases h
  | iastore =>
    obtain ⟨v, hv, rfl⟩ := Option.map_eq_some_iff.mp h
    obtain ⟨x, i, a, n, f, -, -, -, e1⟩ := xiast_inv hv
    dsimp only
    rw [e1]
    exact ⟨Nat.le_refl _, Nat.le_refl _⟩
  | bastore =>
    obtain ⟨v, hv, rfl⟩ := Option.map_eq_some_iff.mp h
    obtain ⟨x, i, a, n, f, -, -, -, e1⟩ := xzast_inv hv
    dsimp only
    rw [e1]
    exact ⟨Nat.le_refl _, Nat.le_refl _⟩
  | lastore =>
    obtain ⟨v, hv, rfl⟩ := Option.map_eq_some_iff.mp h
    obtain ⟨x, i, a, n, f, -, -, -, e1⟩ := xlast_inv hv
    dsimp only
    rw [e1]
    exact ⟨Nat.le_refl _, Nat.le_refl _⟩
  | aastore =>
    obtain ⟨v, hv, rfl⟩ := Option.map_eq_some_iff.mp h
    obtain ⟨v, i, a, rr, n, f, ci, vs, -, -, -, -, -, e1⟩ := xaast_inv hv
    dsimp only
    rw [e1]
    exact ⟨Nat.le_refl _, Nat.le_refl _⟩
  | putfield i =>
    obtain ⟨v, hv, rfl⟩ := Option.map_eq_some_iff.mp h
    obtain ⟨v, a, fs, -, -, -, -, -, e1⟩ := xputf_inv hv
    dsimp only
    rw [e1]
    exact ⟨Nat.le_refl _, Nat.le_refl _⟩
  | newarray a =>
    obtain ⟨v, hv, rfl⟩ := Option.map_eq_some_iff.mp h
    unfold xnewa at hv
    split at hv
    · split at hv
      · cases hv
      · cases a with
        | int =>
          obtain ⟨S1, hw, hq⟩ := Option.map_eq_some_iff.mp hv
          cases hq
          obtain ⟨rfl, -⟩ := xnew_spec hw
          exact ⟨Nat.le_succ _, Nat.le_add_right _ _⟩
        | boolean =>
          obtain ⟨S1, hw, hq⟩ := Option.map_eq_some_iff.mp hv
          cases hq
          obtain ⟨rfl, -⟩ := xnew_spec hw
          exact ⟨Nat.le_succ _, Nat.le_add_right _ _⟩
        | long =>
          obtain ⟨S1, hw, hq⟩ := Option.map_eq_some_iff.mp hv
          cases hq
          obtain ⟨rfl, -⟩ := xnew_spec hw
          exact ⟨Nat.le_succ _, Nat.le_add_right _ _⟩
        | _ => cases hv
    · cases hv
  | anewarray i =>
    unfold xst at h
    dsimp only at h
    split at h
    · obtain ⟨v, hv, rfl⟩ := Option.map_eq_some_iff.mp h
      unfold xnewq at hv
      split at hv
      · split at hv
        · cases hv
        · obtain ⟨S1, hw, hq⟩ := Option.map_eq_some_iff.mp hv
          cases hq
          obtain ⟨rfl, -⟩ := xnew_spec hw
          exact ⟨Nat.le_succ _, Nat.le_add_right _ _⟩
      · cases hv
    · cases h
  | new i =>
    unfold xst at h
    dsimp only at h
    split at h
    · obtain ⟨S1, hw, rfl⟩ := Option.map_eq_some_iff.mp h
      obtain ⟨rfl, -⟩ := xnew_spec hw
      exact ⟨Nat.le_succ _, Nat.le_add_right _ _⟩
    · cases h
  | invokespecial i =>
    unfold xst at h
    dsimp only at h
    split at h
    · obtain ⟨v, hv, rfl⟩ := Option.map_eq_some_iff.mp h
      unfold xsp at hv
      split at hv
      · cases hv
      · rw [if_pos rfl] at hv
        split at hv
        · cases hv; exact ⟨Nat.le_refl _, Nat.le_refl _⟩
        · cases hv
    · cases h
  | invokestatic i =>
    unfold xst at h
    dsimp only at h
    split at h
    · cases h
    · obtain ⟨v, hv, rfl⟩ := Option.map_eq_some_iff.mp h
      unfold xsp at hv
      split at hv
      · cases hv
      · split at hv
        · obtain ⟨t, ht, e9⟩ := Option.map_eq_some_iff.mp hv
          cases e9; exact ⟨Nat.le_refl _, Nat.le_refl _⟩
        · split at hv
          · obtain ⟨t, ht, e9⟩ := Option.map_eq_some_iff.mp hv
            cases e9; exact ⟨Nat.le_refl _, Nat.le_refl _⟩
          · split at hv
            · obtain ⟨n, dp, a, sp, a0, n0, n1, f, g, -, -, -, -, -, -, -, -, e1⟩ := xcpy_inv hv
              dsimp only
              rw [e1]
              exact ⟨Nat.le_refl _, Nat.le_refl _⟩
            · cases hv
  | _ => cases h
theorem xthr_spec {M : xM} {xi : xI} {st : List Value} {S S1 : xS} {k : Nat} (h : xthr M xi st S = some (k, S1)) : (∃ i, xi.1 = .new i) ∧ 1000 ≤ xi.2.2.1 ∧ k = xi.2.2.1 - 1000 ∧ xw st ≤ 8 ∧ xhs M = [] ∧ xnew S (.inr none) 6 = some S1 := by
  unfold xthr at h
  split at h
  · rename_i i hi
    split at h
    · rename_i hc
      obtain ⟨S2, hw, e1⟩ := Option.map_eq_some_iff.mp h
      have e2 := (Prod.mk.inj e1).1
      have e3 := (Prod.mk.inj e1).2
      subst e3
      exact ⟨⟨i, hi⟩, hc.1, e2.symm, hc.2.1, hc.2.2, hw⟩
    · cases h
  · cases h
theorem xrun_mono {sc : xSc} {cl : List vw_C} {fty : Nat → Nat → FieldType} {fdef : Nat → List Value} {ck : Nat → Option Nat} {prog : List xM} {M : xM} {ex : Nat → List Value → xS → Option (xO × xS)} (hex : ∀ a vs S o S1, ex a vs S = some (o, S1) → S.1 ≤ S1.1 ∧ S.2.1 ≤ S1.2.1) :
    ∀ (f pc : Nat) (L : xL) (st : List Value) (S : xS) (o : xO) (S' : xS), xrun sc cl fty fdef ck prog M ex f pc L st S = some (o, S') → S.1 ≤ S'.1 ∧ S.2.1 ≤ S'.2.1 := by
  intro f
  induction f with
  | zero => intro pc L st S o S' h; cases h
  | succ f ih =>
    intro pc L st S o S' h
    unfold xrun at h
    split at h
    · split at h
      · split at h
        · cases h; exact ⟨Nat.le_refl _, Nat.le_refl _⟩
        · split at h
          · split at h
            · rename_i hx
              have h1 := hex _ _ _ _ _ hx
              have h2 := ih _ _ _ _ _ _ h
              exact ⟨Nat.le_trans h1.1 h2.1, Nat.le_trans h1.2 h2.2⟩
            · rename_i hx
              have h1 := hex _ _ _ _ _ hx
              split at h
              · cases h
              · split at h
                · cases h; exact h1
                · split at h
                  · split at h
                    · have h2 := ih _ _ _ _ _ _ h
                      exact ⟨Nat.le_trans h1.1 h2.1, Nat.le_trans h1.2 h2.2⟩
                    · cases h
                  · cases h
            · cases h
          · split at h
            · rename_i ht
              cases h
              obtain ⟨-, -, -, -, -, hw⟩ := xthr_spec ht
              obtain ⟨rfl, -⟩ := xnew_spec hw
              exact ⟨Nat.le_succ _, Nat.le_add_right _ _⟩
            · split at h
              · rename_i hs
                have h1 := xst_mono hs
                have h2 := ih _ _ _ _ _ _ h
                exact ⟨Nat.le_trans h1.1 h2.1, Nat.le_trans h1.2 h2.2⟩
              · cases h
      · cases h
    · cases h
theorem xex_mono {sc : xSc} {cl : List vw_C} {fty : Nat → Nat → FieldType} {fdef : Nat → List Value} {ck : Nat → Option Nat} {prog : List xM} {F : Nat} : ∀ (d a : Nat) (vs : List Value) (S : xS) (o : xO) (S' : xS), xex sc cl fty fdef ck prog d F a vs S = some (o, S') → S.1 ≤ S'.1 ∧ S.2.1 ≤ S'.2.1 := by
  intro d
  induction d with
  | zero => intro a vs S o S' h; cases h
  | succ d ih =>
    intro a vs S o S' h
    unfold xex at h
    split at h
    · split at h
      · exact xrun_mono ih F 0 _ [] S o S' h
      · cases h
    · cases h
