/-! The law over every script of at most 2560 ints. -/
theorem zm0_RI : zRI zm0 := by
  intro p hp hp7
  have h1 : ∀ j, zm0.1 51 0 j = 0 := fun j => zm0_0 (by decide) (by decide) (by decide) (by decide)
  have h2 : ∀ j, zm0.1 57 0 j = 0 := fun j => zm0_0 (by decide) (by decide) (by decide) (by decide)
  have h3 : ∀ j, zm0.1 53 0 j = 0 := fun j => zm0_0 (by decide) (by decide) (by decide) (by decide)
  refine ⟨fun h => ?_, fun i _ _ h => ?_, fun h => ?_, fun h => ?_⟩
  · rw [h1] at h; exact absurd h (by decide)
  · rw [h2] at h; exact absurd h (by decide)
  · exact absurd (h3 _) h
  · rw [h3] at h; exact absurd h (by decide)
theorem zm0_3 {j : Nat} (h : j ≠ 2) : zm0.1 3 0 j = 0 := by
  show (if j = 2 then (1 : Int) else 0) = 0
  rw [if_neg h]
theorem zm0_Lq : zLq 0 (500, 31561) zm0 := by
  refine ⟨Nat.le_refl _, Nat.le_refl _, zm0_B, zm0_RI, fun j => ?_, ?_, fun f _ => ?_, ⟨?_, ?_⟩, ?_, fun f _ h => ?_, zNP_z (zm0_0 (by decide) (by decide) (by decide) (by decide)) (zm0_0 (by decide) (by decide) (by decide) (by decide)), fun f _ h => ?_, fun s _ => ?_, ⟨zE5_n (zm0_0 (by decide) (by decide) (by decide) (by decide)) rfl, zE5_d (zm0_0 (by decide) (by decide) (by decide) (by decide)) rfl⟩, fun t _ => ⟨?_, fun x hx => ?_⟩, fun t _ a b _ _ => ?_, fun q _ => ⟨?_, fun i hi => ?_⟩, fun f _ a _ _ h => ?_, zE8_z (zm0_3 (by decide)) rfl (zm0_0 (by decide) (by decide) (by decide) (by decide)) (zm0_0 (by decide) (by decide) (by decide) (by decide)) (zm0_0 (by decide) (by decide) (by decide) (by decide)) (zm0_0 (by decide) (by decide) (by decide) (by decide)), fun s _ h => ?_, zEA_0 (fun t j => (zm0_0 (by decide) (by decide) (by decide) (by decide))) (zm0_0 (by decide) (by decide) (by decide) (by decide)) (fun k j hk => zm0_0 (by omega) (by omega) (by omega) (by omega)) rfl (fun q hq => (show (if q < 56 then (-1 : Int) else 0) = -1 from if_pos hq)) (by rw [zm0_0 (by decide) (by decide) (by decide) (by decide)]; rfl) (by rw [zm0_0 (by decide) (by decide) (by decide) (by decide)]; rfl)⟩
  · rw [zm0_0 (by decide) (by decide) (by decide) (by decide)]; decide
  · show (1 : Int) = 1; rfl
  · rw [zm0_0 (by decide) (by decide) (by decide) (by decide), zm0_0 (by decide) (by decide) (by decide) (by decide)]
  · rw [zm0_0 (by decide) (by decide) (by decide) (by decide)]; rfl
  · rw [zm0_0 (by decide) (by decide) (by decide) (by decide)]; rfl
  · show zm0.1 0 0 7 = zm0.1 34 0 16
    rw [zm0_0 (by decide) (by decide) (by decide) (by decide)]; rfl
  · rw [zm0_0 (by decide) (by decide) (by decide) (by decide)] at h; exact absurd h (by decide)
  · rw [zm0_0 (by decide) (by decide) (by decide) (by decide)] at h; exact absurd h (by decide)
  · rw [zm0_0 (by decide) (by decide) (by decide) (by decide), zm0_0 (by decide) (by decide) (by decide) (by decide)]; decide
  · rw [zm0_0 (by decide) (by decide) (by decide) (by decide), zm0_0 (by decide) (by decide) (by decide) (by decide)]
  · rw [zm0_0 (by decide) (by decide) (by decide) (by decide)] at hx; omega
  · constructor
    · intro h; have h2 : 35 + 6 * t + a = 35 + 6 * t + b := h; omega
    · intro h; have h2 : 47 + 6 * t + a = 47 + 6 * t + b := h; omega
  · rw [zm0_0 (by decide) (by decide) (by decide) (by decide), zm0_0 (by decide) (by decide) (by decide) (by decide)]
  · rw [zm0_0 (by decide) (by decide) (by decide) (by decide)] at hi; omega
  · rw [zm0_0 (by decide) (by decide) (by decide) (by decide)] at h; omega
  · rw [zm0_0 (by decide) (by decide) (by decide) (by decide)] at h; exact absurd h (by decide)
def zZ (o : xO) (S : xS) : Prop := o = .inl (some (.int 1)) ∧ S.1 ≤ 601024 ∧ S.2.1 ≤ 7293034
section ZP
variable {ρ : Nat → Int32}
theorem aGl_lit {i : Nat} {w : Value} {l : aL} {L' : xL} (h : aGl ρ ((i, .inl w) :: l) L') : ∃ l', L' = (i, w) :: l' ∧ aGl ρ l l' := by
  cases L' with
  | nil => exact h.elim
  | cons q l' =>
    obtain ⟨j, v⟩ := q
    obtain ⟨h1, h2, h3⟩ := h
    have h1 : i = j := h1
    have h2 : v = w := h2
    rw [h1, h2]
    exact ⟨l', rfl, h3⟩
theorem zC_ok {N : Nat} (hN : N ≤ 2560) : aN ρ zP (N + 1, ρ) zLaw zZ zfrC := by
  intro fr hfr
  obtain ⟨pc, L', st, S⟩ := fr
  obtain ⟨_, h1, h2, h3, h4⟩ := hfr
  have h1 : 23 = pc := h1
  have h2 : aGl ρ zlC L' := h2
  have h3 : aGs ρ [] st := h3
  have h4 : aGS ρ zhC S := h4
  subst h1
  obtain ⟨l1, e1, k1⟩ := aGl_lit h2
  obtain ⟨l2, e2, k2⟩ := aGl_lit k1
  obtain ⟨l3, e3, k3⟩ := aGl_lit k2
  obtain ⟨l4, e4, k4⟩ := aGl_lit k3
  obtain ⟨l5, e5, k5⟩ := aGl_lit k4
  cases l5 with
  | cons q l => exact k5.elim
  | nil =>
    cases st with
    | cons v st => exact h3.elim
    | nil =>
      obtain ⟨o, S', hr, n', m', hV, ho, hn1, hn2⟩ := zloop (xs := ρ) hN _ 0 0 (500, 31561) zm0 rfl rfl (by omega) zm0_Lq S (zV_ok h4)
      rw [e1, e2, e3, e4, e5]
      refine ⟨wco (zK (N + 1, ρ)) o, S', hr, ?_, ?_, ?_⟩
      · rw [ho]; rfl
      · rw [hV.2.1]; omega
      · rw [hV.2.2.1]; omega
theorem zI5_ok : aGe ρ zI5 := by
  intro k p hp
  unfold zI5 at hp
  rw [List.getElem?_replicate] at hp
  split at hp
  · cases hp
    have h1 := Int32.le_toInt (ρ k)
    have h2 := Int32.toInt_lt (ρ k)
    exact ⟨by omega, by omega⟩
  · cases hp
theorem zA0_ok : aGS ρ zA0 zS0 := by
  refine ⟨rfl, rfl, fun k ca h => ?_⟩
  have h : ((List.replicate 48 (List.replicate 48 (.inr none : aC))).getD (k / 48) [])[k % 48]? = some ca := h
  show ∃ c, ((List.replicate 48 (List.replicate 48 (.inr none : xC))).getD (k / 48) [])[k % 48]? = some c ∧ aGc ρ ca c
  rw [List.getD_eq_getElem?_getD, List.getElem?_replicate] at h ⊢
  by_cases hk : k / 48 < 48
  · rw [if_pos hk, Option.getD_some, List.getElem?_replicate, if_pos (by omega)] at h
    rw [if_pos hk, Option.getD_some, List.getElem?_replicate, if_pos (by omega)]
    cases h
    exact ⟨_, rfl, trivial⟩
  · rw [if_neg hk] at h
    simp at h
theorem zpure {N : Nat} (hN : N ≤ 2560) : ∃ (d F F' : Nat) (S' : xS), xrun (N + 1, ρ) zcl zfty zfdef (xck zG) zprog zLaw (xex (N + 1, ρ) zcl zfty zfdef (xck zG) zprog d F) F' 0 [(0, .retAddr 0)] [] zS0 = some (.inl (some (.int 1)), S') ∧ S'.1 ≤ 601024 ∧ S'.2.1 ≤ 7293034 := by
  have h : aN ρ zP (N + 1, ρ) zLaw zZ zfrA := ago_sound (N := none) (fun n hn => by cases hn) _ zgoB (ago_sound (N := none) (fun n hn => by cases hn) _ zgoC (zC_ok hN))
  obtain ⟨o, S', ⟨d, F, F', hr⟩, rfl, h1, h2⟩ := h (0, [(0, .retAddr 0)], [], zS0) ⟨zI5_ok, rfl, ⟨rfl, rfl, trivial⟩, trivial, zA0_ok⟩
  exact ⟨d, F, F', S', hr, h1, h2⟩
end ZP
