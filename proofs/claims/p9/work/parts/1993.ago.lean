section ASND6
variable {ρ : Nat → Int32}
/-- a step that doesn't fork -/
def ago1 (P : xPk) (N : Option Nat) (M : xM) (ex : aE → Nat → List aV → aS → Option (List aR)) (q : aE × aF) : Option (aE × aF) := match (xcd M)[q.2.1]? with
  | some (some xi) =>
    if xi.2.1 = xlenOf xi.1 xi.2.1 then
      match aend M xi.1 q.2.2.2.1 with
      | some _ => none
      | none => match acal P.2.2.2.2 xi q.2.2.2.1 q.2.2.2.2 with
        | some (vs, r) => (match ex q.1 xi.2.2.1 vs q.2.2.2.2 with
          | some [(E, .inl v, S1)] => some (E, q.2.1 + 3, q.2.2.1, v.toList ++ r, S1)
          | _ => none)
        | none => (match athr M xi q.2.2.2.1 q.2.2.2.2 with
          | some _ => none
          | none => if xinv xi.1 = true ∧ (P.2.2.2.2[xi.2.2.1]?).isSome = true then none else (match ast N P.1 P.2.1 P.2.2.1 (xmx M) xi q.1 q.2.1 q.2.2.1 q.2.2.2.1 q.2.2.2.2 with
            | some [fr] => some fr
            | _ => none))
    else none
  | _ => none
def ago (P : xPk) (N : Option Nat) (M : xM) (ex : aE → Nat → List aV → aS → Option (List aR)) : Nat → aE × aF → Option (aE × aF)
  | 0, q => some q
  | n + 1, q => match ago1 P N M ex q with
    | some q' => ago P N M ex n q'
    | none => none
/-- from every frame that is meant, the body comes to an outcome of the kind -/
def aN (ρ : Nat → Int32) (P : xPk) (sc : xSc) (M : xM) (Z : xO → xS → Prop) (q : aE × aF) : Prop := ∀ fr : xF, aGF ρ q fr → ∃ o S', xN P sc M fr.1 fr.2.1 fr.2.2.1 fr.2.2.2 o S' ∧ Z o S'
theorem ago1_sound {P : xPk} {N : Option Nat} {sc : xSc} (hsc : ∀ n, N = some n → sc = (n + 1, ρ)) {M : xM} {d F : Nat} {Z : xO → xS → Prop} {q q' : aE × aF} (h : ago1 P N M (aex P N d F) q = some q') (hn : aN ρ P sc M Z q') : aN ρ P sc M Z q := by
  intro fr hfr
  obtain ⟨E, pc, L, as, A⟩ := q
  obtain ⟨pc', L', st, S⟩ := fr
  obtain ⟨hE, hpc, hL, hs, hS⟩ := hfr
  cases (show pc = pc' from hpc)
  unfold ago1 at h
  dsimp only at h
  split at h
  · rename_i xi hat
    split at h
    · rename_i hlen
      split at h
      · cases h
      · split at h
        · rename_i va r hcal
          obtain ⟨hinv, vs, r', hc, hva, hr⟩ := acal_ok hs hS hcal
          have hnd : xend M xi.1 st = none := by
            cases hi : xi.1 <;> first | rfl | (rw [hi] at hinv; cases hinv)
          split at h
          · rename_i E1 a A1 hos
            cases h
            obtain ⟨o, S1, he, q, hq, hq1, hq2, hq3⟩ := aex_sound hsc _ _ _ _ _ _ _ vs S hE hva hS hos
            cases (List.mem_singleton.mp hq)
            cases o with
            | inr j => cases a <;> exact hq2.elim
            | inl v =>
              have hv : aGs ρ (a.toList ++ r) (v.toList ++ r') := by
                cases a with
                | none => cases v with
                  | none => exact hr
                  | some v => exact hq2.elim
                | some a => cases v with
                  | none => exact hq2.elim
                  | some v => exact ⟨hq2, hr⟩
              obtain ⟨o2, S2, h2, h3⟩ := hn (pc + 3, L', v.toList ++ r', S1) ⟨hq1, rfl, hL, hv, hq3⟩
              exact ⟨o2, S2, xn_call hat hlen hnd hc ⟨_, _, he⟩ h2, h3⟩
          · cases h
        · split at h
          · cases h
          · split at h
            · cases h
            · rename_i hinv
              split at h
              · rename_i fr1 hfrs
                cases h
                obtain ⟨hnd, hcal, hthr⟩ := ast_pure (st := st) (S := S) hinv hfrs
                obtain ⟨q, hq, fr, hfr, hg⟩ := ast_sound hsc hE hL hs hS hfrs
                cases (List.mem_singleton.mp hq)
                obtain ⟨o2, S2, h2, h3⟩ := hn fr hg
                exact ⟨o2, S2, xn_step hat hlen hnd hcal hthr hfr h2, h3⟩
              · cases h
    · cases h
  · cases h
theorem ago_sound {P : xPk} {N : Option Nat} {sc : xSc} (hsc : ∀ n, N = some n → sc = (n + 1, ρ)) {M : xM} {d F : Nat} {Z : xO → xS → Prop} : ∀ (n : Nat) {q q' : aE × aF}, ago P N M (aex P N d F) n q = some q' → aN ρ P sc M Z q' → aN ρ P sc M Z q
  | 0, q, q', h, hn => by cases h; exact hn
  | n + 1, q, q', h, hn => by
    unfold ago at h
    split at h
    · rename_i q1 h1
      exact ago1_sound hsc h1 (ago_sound hsc n h hn)
    · cases h
/-- a fork: all its branches -/
def afk (P : xPk) (N : Option Nat) (M : xM) (q : aE × aF) : Option (List (aE × aF)) := match (xcd M)[q.2.1]? with
  | some (some xi) => if xi.2.1 = xlenOf xi.1 xi.2.1 ∧ xinv xi.1 = false then ast N P.1 P.2.1 P.2.2.1 (xmx M) xi q.1 q.2.1 q.2.2.1 q.2.2.2.1 q.2.2.2.2 else none
  | _ => none
theorem afk_sound {P : xPk} {N : Option Nat} {sc : xSc} (hsc : ∀ n, N = some n → sc = (n + 1, ρ)) {M : xM} {Z : xO → xS → Prop} {q : aE × aF} {frs : List (aE × aF)} (h : afk P N M q = some frs) (hn : ∀ q' ∈ frs, aN ρ P sc M Z q') : aN ρ P sc M Z q := by
  intro fr hfr
  obtain ⟨E, pc, L, as, A⟩ := q
  obtain ⟨pc', L', st, S⟩ := fr
  obtain ⟨hE, hpc, hL, hs, hS⟩ := hfr
  cases (show pc = pc' from hpc)
  unfold afk at h
  dsimp only at h
  split at h
  · rename_i xi hat
    split at h
    · rename_i hc
      obtain ⟨hnd, hcal, hthr⟩ := ast_pure (st := st) (S := S) (fun q => by rw [hc.2] at q; cases q.1) h
      obtain ⟨q, hq, fr, hfr, hg⟩ := ast_sound hsc hE hL hs hS h
      obtain ⟨o2, S2, h2, h3⟩ := hn q hq fr hg
      exact ⟨o2, S2, xn_step hat hc.1 hnd hcal hthr hfr h2, h3⟩
    · cases h
  · cases h
/-- the run to its end -/
theorem arun_aN {P : xPk} {N : Option Nat} {sc : xSc} (hsc : ∀ n, N = some n → sc = (n + 1, ρ)) {M : xM} {d F f : Nat} {Z : xO → xS → Prop} {q : aE × aF} {os : List aR} (h : arun P N M (aex P N d F) f q.1 q.2.1 q.2.2.1 q.2.2.2.1 q.2.2.2.2 = some os) (hz : ∀ r ∈ os, ∀ o S', aGe ρ r.1 → aGo ρ r.2.1 o → aGS ρ r.2.2 S' → Z o S') : aN ρ P sc M Z q := by
  intro fr ⟨hE, hpc, hL, hs, hS⟩
  obtain ⟨o, S1, h1, r, hr, r1, r2, r3⟩ := arun_sound hsc (fun E a va A os vs S h1 h2 h3 h4 => aex_sound hsc d F E a va A os vs S h1 h2 h3 h4) f _ _ _ _ _ os _ _ _ hE hL hs hS h
  exact ⟨o, S1, ⟨d, F, f, by rw [← hpc]; exact h1⟩, hz r hr o S1 r1 r2 r3⟩
end ASND6
