section ASND5
variable {ρ : Nat → Int32}
def aGo (ρ : Nat → Int32) (a : aO) (o : xO) : Prop := match a, o with
  | .inl none, .inl none => True
  | .inl (some a), .inl (some v) => aG ρ a v
  | .inr k, .inr j => k = j
  | _, _ => False
/-- an outcome of the run is one of the list -/
def aGR (ρ : Nat → Int32) (os : List aR) (o : xO) (S : xS) : Prop := ∃ q ∈ os, aGe ρ q.1 ∧ aGo ρ q.2.1 o ∧ aGS ρ q.2.2 S
theorem aend_ok {M : xM} {i : Instr} {as : List aV} {st : List Value} {a : Option aV} (hs : aGs ρ as st) (h : aend M i as = some a) : ∃ v, xend M i st = some v ∧ aGo ρ (.inl a) (.inl v) := by
  unfold aend at h
  unfold xend
  split at h
  · split at h
    · rename_i b ty hty
      split at h
      · rename_i hc
        rw [Bool.and_eq_true] at hc
        cases h
        obtain ⟨v, r, rfl, h1, h2⟩ := aGs_cons hs
        rw [aGs_nil h2]
        obtain ⟨x, rfl⟩ := aG_int h1 hc.1
        dsimp only
        rw [hty]
        dsimp only
        rw [if_pos (afit_ok h1 hc.2)]
        exact ⟨_, rfl, h1⟩
      · cases h
    · cases h
  · split at h
    · rename_i b hty
      split at h
      · rename_i hc
        cases h
        obtain ⟨v, r, rfl, h1, h2⟩ := aGs_cons hs
        rw [aGs_nil h2]
        obtain ⟨x, rfl⟩ := aG_long h1 hc
        dsimp only
        rw [hty]
        exact ⟨_, rfl, h1⟩
      · cases h
    · cases h
  · split at h
    · rename_i hty
      cases h
      obtain ⟨v, r, rfl, h1, h2⟩ := aGs_cons hs
      rw [aGs_nil h2]
      cases (show v = _ from h1)
      dsimp only
      rw [hty]
      exact ⟨_, rfl, rfl⟩
    · rename_i hty
      cases h
      obtain ⟨v, r, rfl, h1, h2⟩ := aGs_cons hs
      rw [aGs_nil h2]
      cases (show v = _ from h1)
      dsimp only
      rw [hty]
      exact ⟨_, rfl, rfl⟩
    · cases h
  · split at h
    · rename_i hty
      cases h
      rw [aGs_nil hs]
      dsimp only
      rw [hty]
      exact ⟨_, rfl, trivial⟩
    · cases h
  · cases h
theorem arcv_ok {A : aS} {S : xS} {ci : Nat} {as : List aV} {vs : List Value} (hs : aGs ρ as vs) (hS : aGS ρ A S) (h : arcv A ci as = true) : xrcv S ci vs = true := by
  unfold arcv at h
  split at h
  · obtain ⟨v, r, rfl, h1, h2⟩ := aGs_cons hs
    cases (show v = _ from h1)
    split at h
    · rename_i cj fs hc
      obtain ⟨c, hx, ws, rfl, -⟩ := aGS_at hS hc
      unfold xrcv
      dsimp only
      rw [hx]
      exact h
    · cases h
  · cases h
theorem arf1_ok {as : List aV} {vs : List Value} (hs : aGs ρ as vs) (h : arf1 as = true) : xrf1 vs = true := by
  unfold arf1 at h
  split at h
  · obtain ⟨v, r, rfl, h1, h2⟩ := aGs_cons hs
    cases (show v = _ from h1)
    rfl
  · cases h
theorem acal_ok {prog : List xM} {xi : xI} {as : List aV} {st : List Value} {A : aS} {S : xS} {va r : List aV} (hs : aGs ρ as st) (hS : aGS ρ A S) (h : acal prog xi as A = some (va, r)) : xinv xi.1 = true ∧ ∃ vs r', xcal prog xi st S = some (vs, r') ∧ aGs ρ va vs ∧ aGs ρ r r' := by
  unfold acal at h
  split at h
  · rename_i N hN
    unfold aargs at h
    split at h
    · rename_i hc
      have hc' : xna N ≤ st.length ∧ xw (st.drop (xna N)) ≤ 8 ∧ xkd N ≤ 3 := ⟨by rw [← aGs_len hs]; exact hc.1, by rw [aGs_w (aGs_drop _ hs)]; exact hc.2.1, hc.2.2⟩
      split at h
      · rename_i hi
        split at h
        · rename_i hk
          cases h
          exact ⟨by rw [hi]; rfl, _, _, by unfold xcal; rw [hN]; dsimp only; unfold xargs; rw [if_pos hc', hi]; dsimp only; rw [if_pos hk], aGs_rev (aGs_take _ hs), aGs_drop _ hs⟩
        · cases h
      · rename_i hi
        split at h
        · rename_i hk
          cases h
          exact ⟨by rw [hi]; rfl, _, _, by unfold xcal; rw [hN]; dsimp only; unfold xargs; rw [if_pos hc', hi]; dsimp only; rw [if_pos ⟨hk.1, arcv_ok (aGs_rev (aGs_take _ hs)) hS hk.2⟩], aGs_rev (aGs_take _ hs), aGs_drop _ hs⟩
        · cases h
      · rename_i hi
        split at h
        · rename_i hk
          cases h
          exact ⟨by rw [hi]; rfl, _, _, by unfold xcal; rw [hN]; dsimp only; unfold xargs; rw [if_pos hc', hi]; dsimp only; rw [if_pos ⟨hk.1, arf1_ok (aGs_rev (aGs_take _ hs)) hk.2⟩], aGs_rev (aGs_take _ hs), aGs_drop _ hs⟩
        · cases h
      · cases h
    · cases h
  · cases h
theorem athr_ok {M : xM} {xi : xI} {as : List aV} {st : List Value} {A A1 : aS} {S : xS} {k : Nat} (hs : aGs ρ as st) (hS : aGS ρ A S) (h : athr M xi as A = some (k, A1)) : xinv xi.1 = false ∧ xend M xi.1 st = none ∧ ∃ S1, xthr M xi st S = some (k, S1) ∧ aGS ρ A1 S1 := by
  unfold athr at h
  split at h
  · rename_i hi
    split at h
    · rename_i hc
      obtain ⟨A', ha, he⟩ := Option.map_eq_some_iff.mp h
      obtain ⟨e1, e2⟩ := Prod.mk.inj he
      subst e2
      rw [← e1]
      obtain ⟨S', hs', hS'⟩ := aGS_new (c := .inr none) hS ha trivial
      refine ⟨by rw [hi]; rfl, by rw [hi]; rfl, S', ?_, hS'⟩
      unfold xthr
      rw [hi]
      dsimp only
      rw [if_pos ⟨hc.1, by rw [aGs_w hs]; exact hc.2.1, hc.2.2⟩, hs']
      rfl
    · cases h
  · cases h
theorem ahp_ok {M : xM} {hp pc' : Nat} {L L1 : aL} {L' : xL} (hL : aGl ρ L L') (h : ahp M hp L = some (pc', L1)) : ∃ L2, xhp M hp L' = some (pc', L2) ∧ aGl ρ L1 L2 := by
  unfold ahp at h
  unfold xhp
  cases hx : (xcd M)[hp]? with
  | none => rw [hx] at h; cases h
  | some o =>
    rw [hx] at h
    cases o with
    | none => cases h
    | some xi =>
      dsimp only at h ⊢
      by_cases hl : xi.2.1 = xlenOf xi.1 xi.2.1
      · rw [if_pos hl] at h
        rw [if_pos hl]
        cases hi : xi.1 with
        | astore i =>
          rw [hi] at h
          dsimp only at h ⊢
          by_cases hm : i < xmx M
          · rw [if_pos hm] at h
            cases h
            rw [if_pos hm]
            exact ⟨_, rfl, aGl_fil hL⟩
          · rw [if_neg hm] at h; cases h
        | astore_n i =>
          rw [hi] at h
          dsimp only at h ⊢
          by_cases hm : i.val < xmx M
          · rw [if_pos hm] at h
            cases h
            rw [if_pos hm]
            exact ⟨_, rfl, aGl_fil hL⟩
          · rw [if_neg hm] at h; cases h
        | _ => rw [hi] at h; cases h
      · rw [if_neg hl] at h; cases h
/-- a step that is no call, no end and no throw -/
theorem ast_pure {N : Option Nat} {P : xPk} {M : xM} {xi : xI} {E : aE} {pc : Nat} {L : aL} {as : List aV} {A : aS} {frs : List (aE × aF)} {st : List Value} {S : xS} (hi : ¬ (xinv xi.1 = true ∧ (P.2.2.2.2[xi.2.2.1]?).isSome = true)) (h : ast N P.1 P.2.1 P.2.2.1 (xmx M) xi E pc L as A = some frs) : xend M xi.1 st = none ∧ xcal P.2.2.2.2 xi st S = none ∧ xthr M xi st S = none := by
  have hcal : xcal P.2.2.2.2 xi st S = none := by
    cases hv : xinv xi.1 with
    | false => exact xcal_ni hv
    | true =>
      unfold xcal
      cases hp : P.2.2.2.2[xi.2.2.1]? with
      | none => rfl
      | some N => exact absurd ⟨hv, by rw [hp]; rfl⟩ hi
  obtain ⟨ins, len, qa, qb, qz, qj⟩ := xi
  cases ins with
  | new n =>
    refine ⟨rfl, hcal, ?_⟩
    unfold ast at h
    dsimp only at h
    split at h
    · split at h
      · cases h
      · rename_i hn
        unfold xthr
        dsimp only
        rw [if_neg (fun q => hn q.1)]
    · cases h
  | ireturn => cases h
  | lreturn => cases h
  | areturn => cases h
  | return_ => cases h
  | _ => exact ⟨rfl, hcal, rfl⟩
theorem arun_sound {P : xPk} {N : Option Nat} {sc : xSc} (hsc : ∀ n, N = some n → sc = (n + 1, ρ)) {M : xM} {ex : aE → Nat → List aV → aS → Option (List aR)} {ex' : Nat → List Value → xS → Option (xO × xS)}
    (hex : ∀ (E : aE) (a : Nat) (va : List aV) (A : aS) (os : List aR) (vs : List Value) (S : xS), aGe ρ E → aGs ρ va vs → aGS ρ A S → ex E a va A = some os → ∃ o S1, ex' a vs S = some (o, S1) ∧ aGR ρ os o S1) :
    ∀ (f : Nat) (E : aE) (pc : Nat) (L : aL) (as : List aV) (A : aS) (os : List aR) (L' : xL) (st : List Value) (S : xS), aGe ρ E → aGl ρ L L' → aGs ρ as st → aGS ρ A S → arun P N M ex f E pc L as A = some os →
      ∃ o S1, xrn P sc M ex' f pc L' st S = some (o, S1) ∧ aGR ρ os o S1 := by
  intro f
  induction f with
  | zero => intro E pc L as A os L' st S _ _ _ _ h; cases h
  | succ f ih =>
    intro E pc L as A os L' st S hE hL hs hS h
    unfold arun at h
    unfold xrn xrun
    split at h
    · rename_i xi hat
      try rw [hat]
      try dsimp only
      split at h
      · rename_i hlen
        rw [if_pos hlen]
        split at h
        · rename_i a ha
          cases h
          obtain ⟨v, hv, hg⟩ := aend_ok hs ha
          rw [hv]
          exact ⟨_, _, rfl, _, List.mem_singleton_self _, hE, hg, hS⟩
        · split at h
          · rename_i va r hcal
            obtain ⟨hinv, vs, r', hc, hva, hr⟩ := acal_ok hs hS hcal
            have hnd : xend M xi.1 st = none := by
              cases hi : xi.1 <;> first | rfl | (rw [hi] at hinv; cases hinv)
            rw [hnd]
            dsimp only
            rw [hc]
            dsimp only
            split at h
            · rename_i os1 hos1
              obtain ⟨o, S1, he, q, hq, hq1, hq2, hq3⟩ := hex _ _ _ _ _ vs S hE hva hS hos1
              rw [he]
              obtain ⟨cs, hcs, hsub⟩ := aall_ok h q hq
              have up : ∀ {o9 : xO} {S9 : xS}, aGR ρ cs o9 S9 → aGR ρ os o9 S9 := fun ⟨q9, m9, r9⟩ => ⟨q9, hsub q9 m9, r9⟩
              obtain ⟨E1, o1, A1⟩ := q
              cases o1 with
              | inl a =>
                cases o with
                | inr j => cases a <;> exact hq2.elim
                | inl v =>
                  have hv : aGs ρ (a.toList ++ r) (v.toList ++ r') := by
                    cases a with
                    | none => cases v with
                      | none => exact hr
                      | some v => exact hq2.elim
                    | some a => cases v with
                      | none => exact hq2.elim
                      | some v => exact ⟨hq2, hr⟩
                  obtain ⟨o2, S2, h2, h3⟩ := ih _ _ _ _ _ _ _ _ _ hq1 hL hv hq3 hcs
                  exact ⟨o2, S2, h2, up h3⟩
              | inr k =>
                cases o with
                | inl v => exact hq2.elim
                | inr j =>
                  cases (show k = j from hq2)
                  dsimp only at hcs ⊢
                  split at hcs
                  · cases hcs
                  · rename_i hsp
                    rw [if_neg hsp]
                    cases hh : xhs M with
                    | nil =>
                      rw [hh] at hcs
                      cases hcs
                      exact ⟨_, _, rfl, up ⟨_, List.mem_singleton_self _, hq1, rfl, hq3⟩⟩
                    | cons q1 q2 =>
                      rw [hh] at hcs
                      dsimp only at hcs ⊢
                      split at hcs
                      · rename_i hp hhp
                        rw [hhp]
                        dsimp only
                        split at hcs
                        · rename_i pc' L1 hah
                          obtain ⟨L2, hx2, hg2⟩ := ahp_ok hL hah
                          rw [hx2]
                          dsimp only
                          obtain ⟨o2, S2, h2, h3⟩ := ih _ _ _ _ _ _ _ _ _ hq1 hg2 (show aGs ρ [] [] from trivial) hq3 hcs
                          exact ⟨o2, S2, h2, up h3⟩
                        · cases hcs
                      · cases hcs
            · cases h
          · split at h
            · rename_i k A1 hthr
              cases h
              obtain ⟨hinv, hnd, S1, hx, hg⟩ := athr_ok hs hS hthr
              rw [hnd]
              dsimp only
              rw [xcal_ni hinv]
              dsimp only
              rw [hx]
              exact ⟨_, _, rfl, _, List.mem_singleton_self _, hE, rfl, hg⟩
            · split at h
              · cases h
              · rename_i hinv
                split at h
                · rename_i frs hfrs
                  obtain ⟨hnd, hcal, hthr⟩ := ast_pure (st := st) (S := S) hinv hfrs
                  rw [hnd]
                  dsimp only
                  rw [hcal]
                  dsimp only
                  rw [hthr]
                  dsimp only
                  obtain ⟨q, hq, fr, hfr, g1, g2, g3, g4, g5⟩ := ast_sound hsc hE hL hs hS hfrs
                  rw [hfr]
                  obtain ⟨cs, hcs, hsub⟩ := aall_ok h q hq
                  rw [g2] at hcs
                  obtain ⟨o2, S2, h2, q9, m9, r9⟩ := ih _ _ _ _ _ _ _ _ _ g1 g3 g4 g5 hcs
                  exact ⟨o2, S2, h2, q9, hsub q9 m9, r9⟩
                · cases h
      · cases h
    · cases h
theorem aex_sound {P : xPk} {N : Option Nat} {sc : xSc} (hsc : ∀ n, N = some n → sc = (n + 1, ρ)) : ∀ (d F : Nat) (E : aE) (a : Nat) (va : List aV) (A : aS) (os : List aR) (vs : List Value) (S : xS), aGe ρ E → aGs ρ va vs → aGS ρ A S → aex P N d F E a va A = some os → ∃ o S1, xen P sc d F a vs S = some (o, S1) ∧ aGR ρ os o S1 := by
  intro d
  induction d with
  | zero => intro F E a va A os vs S _ _ _ h; cases h
  | succ d ih =>
    intro F E a va A os vs S hE hs hS h
    unfold aex at h
    unfold xen xex
    split at h
    · rename_i M hM
      try rw [hM]
      try dsimp only
      split at h
      · rename_i hw
        rw [if_pos (by rw [aGs_w hs]; exact hw)]
        exact arun_sound hsc (fun E a va A os vs S h1 h2 h3 h4 => ih F E a va A os vs S h1 h2 h3 h4) F E 0 _ [] A os _ [] S hE (aGl_args 0 hs) trivial hS h
      · cases h
    · cases h
end ASND5
