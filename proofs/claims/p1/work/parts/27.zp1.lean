/-! The law over every script of at most 5 ints, run by the small machine. -/
theorem zpcs_ok : ∀ pc ∈ zpcs, zok 5 pc = true := by
  unfold zpcs
  simp only [List.forall_mem_cons]
  exact ⟨zok132, zok260, zok316, zok379, zok435, zok479, zok546, zok606, zok662, zok706, zok717, zok793, zok861, zok953, zok1009, zok1065, zok1173, zok1240, zok1300, zok1313, zok1369, fun _ h => by cases h⟩
def zZ (o : xO) (S : xS) : Prop := o = .inl (some (.int 1)) ∧ S.1 ≤ 600002 ∧ S.2.1 ≤ 7302232
section ZP
variable {ρ : Nat → Int32}
theorem zone_ok {r : aR} {o : xO} {S : xS} (h : zone r = true) (ho : aGo ρ r.2.1 o) (hS : aGS ρ r.2.2 S) : zZ o S := by
  unfold zone at h
  split at h
  · rename_i x hx
    simp only [Bool.and_eq_true, decide_eq_true_eq] at h
    rw [hx] at ho
    obtain ⟨h1, h2, h3⟩ := h
    refine ⟨?_, by rw [← hS.1]; exact h2, by rw [← hS.2.1]; exact h3⟩
    cases o with
    | inr k => exact ho.elim
    | inl v => cases v with
      | none => exact ho.elim
      | some v => rw [show v = .int x from ho, h1]
  · cases h
theorem zok_ok {N pc : Nat} (h : zok N pc = true) : aN ρ zP (N + 1, ρ) zLaw zZ (zI5, pc, zlC, [], zhC) := by
  unfold zok at h
  split at h
  · rename_i os hos
    exact arun_aN (N := some N) (q := (zI5, pc, zlC, [], zhC)) (fun n hn => by cases hn; rfl) hos (fun r hr o S' _ h2 h3 => zone_ok (List.all_eq_true.mp h r hr) h2 h3)
  · cases h
theorem zC_ok {N : Nat} (hN : N ≤ 5) : aN ρ zP (N + 1, ρ) zLaw zZ zfrC := by
  have h5 : aN ρ zP (5 + 1, ρ) zLaw zZ zfrC := by
    refine ago_sound (N := some 5) (fun n hn => by cases hn; rfl) _ zgoD ?_
    have h := zfkD
    split at h
    · rename_i frs hf
      refine afk_sound (N := some 5) (fun n hn => by cases hn; rfl) hf fun q hq => ?_
      obtain ⟨t, rfl⟩ := afk_tab (M := zLaw) (pc := 39) rfl hf q hq
      exact zok_ok (zpcs_ok t (of_decide_eq_true (List.all_eq_true.mp h _ hq)))
    · cases h
  rcases (show N = 0 ∨ N = 1 ∨ N = 2 ∨ N = 3 ∨ N = 4 ∨ N = 5 by omega) with rfl | rfl | rfl | rfl | rfl | rfl
  · exact zok_ok zokN0
  · exact zok_ok zokN1
  · exact zok_ok zokN2
  · exact zok_ok zokN3
  · exact zok_ok zokN4
  · exact h5
theorem zI5_ok : aGe ρ zI5 := by
  intro k p hp
  unfold zI5 at hp
  rw [List.getElem?_replicate] at hp
  split at hp
  · cases hp
    have h1 := Int32.le_toInt (ρ k)
    have h2 := Int32.toInt_lt (ρ k)
    exact ⟨by omega, by omega⟩
  · cases hp
theorem zA0_ok : aGS ρ zA0 zS0 := by
  refine ⟨rfl, rfl, fun k ca h => ?_⟩
  have h : ((List.replicate 48 (List.replicate 48 (.inr none : aC))).getD (k / 48) [])[k % 48]? = some ca := h
  show ∃ c, ((List.replicate 48 (List.replicate 48 (.inr none : xC))).getD (k / 48) [])[k % 48]? = some c ∧ aGc ρ ca c
  rw [List.getD_eq_getElem?_getD, List.getElem?_replicate] at h ⊢
  by_cases hk : k / 48 < 48
  · rw [if_pos hk, Option.getD_some, List.getElem?_replicate, if_pos (by omega)] at h
    rw [if_pos hk, Option.getD_some, List.getElem?_replicate, if_pos (by omega)]
    cases h
    exact ⟨_, rfl, trivial⟩
  · rw [if_neg hk] at h
    simp at h
theorem zpure {N : Nat} (hN : N ≤ 5) : ∃ (d F F' : Nat) (S' : xS), xrun (N + 1, ρ) zcl zfty zfdef (xck zG) zprog zLaw (xex (N + 1, ρ) zcl zfty zfdef (xck zG) zprog d F) F' 0 [(0, .retAddr 0)] [] zS0 = some (.inl (some (.int 1)), S') ∧ S'.1 ≤ 600002 ∧ S'.2.1 ≤ 7302232 := by
  have h : aN ρ zP (N + 1, ρ) zLaw zZ zfrA := ago_sound (N := none) (fun n hn => by cases hn) _ zgoB (ago_sound (N := none) (fun n hn => by cases hn) _ zgoC (zC_ok hN))
  obtain ⟨o, S', ⟨d, F, F', hr⟩, rfl, h1, h2⟩ := h (0, [(0, .retAddr 0)], [], zS0) ⟨zI5_ok, rfl, ⟨rfl, rfl, trivial⟩, trivial, zA0_ok⟩
  exact ⟨d, F, F', S', hr, h1, h2⟩
end ZP
