/-! A manifest that can be one, told on bytes: both sides. -/
/-- a manifest that can be one: of so many bytes, of this version -/
def zNa (b : Int → Int) (a : Int) : zRc := zcut (b a) (fun k => b (a + 1 + (k : Int)))
def zMj (b : Int → Int) (S : Int) (j : Nat) : Prop := 1 ≤ b (zat b j) ∧ b (zat b j) ≤ 6 ∧ zat b j + 10 + b (zat b j) ≤ S ∧ b (zat b j + 1 + b (zat b j)) ≤ 96 ∧ (∀ k : Nat, (k : Int) < b (zat b j) → 33 ≤ b (zat b j + 1 + (k : Int)) ∧ b (zat b j + 1 + (k : Int)) ≤ 126) ∧ (j = 0 ∨ ∃ r, zCm (zNa b (zat b (j - 1))) (zNa b (zat b j)) r ∧ r < 0)
def zMan (S v : Int) (b : Int → Int) : Prop := 3 ≤ S ∧ 256 * b 0 + b 1 = v ∧ b 2 ≤ 6 ∧ (∀ j : Nat, (j : Int) < b 2 → zMj b S j) ∧ zat b (b 2).toNat = S
theorem zat_b {b b' : Int → Int} {S : Int} (h : ∀ a, 0 ≤ a → a < S → b' a = b a) : ∀ j : Nat, (∀ i : Nat, i < j → zMj b S i) → zat b' j = zat b j ∧ 3 ≤ zat b j := by
  intro j
  induction j with
  | zero => intro _; exact ⟨rfl, Int.le_refl _⟩
  | succ j ih =>
    intro hj
    obtain ⟨e, h3⟩ := ih (fun i hi => hj i (Nat.lt_succ_of_lt hi))
    obtain ⟨a1, a2, a3, _⟩ := hj j (Nat.lt_succ_self j)
    show zat b' j + 10 + b' (zat b' j) = zat b j + 10 + b (zat b j) ∧ 3 ≤ zat b j + 10 + b (zat b j)
    rw [e, h (zat b j) (by omega) (by omega)]
    exact ⟨rfl, by omega⟩
/-- bytes behind its end don't matter -/
theorem zMan_c {b b' : Int → Int} {S v : Int} (h : ∀ a, 0 ≤ a → a < S → b' a = b a) (hm : zMan S v b) : zMan S v b' := by
  obtain ⟨h1, h2, h3, h4, h5⟩ := hm
  have e2 := h 2 (by decide) (by omega)
  have hmj : ∀ j : Nat, (j : Int) < b 2 → zMj b' S j := fun j hj => by
    obtain ⟨e, g3⟩ := zat_b h j (fun i hi => h4 i (by omega))
    obtain ⟨a1, a2, a3, a4, a5, a6⟩ := h4 j hj
    have en := h (zat b j) (by omega) (by omega)
    unfold zMj
    rw [e, en, h (zat b j + 1 + b (zat b j)) (by omega) (by omega)]
    refine ⟨a1, a2, a3, a4, fun k hk => by rw [h _ (by omega) (by omega)]; exact a5 k hk, ?_⟩
    rcases a6 with a6 | ⟨r, a6, a7⟩
    · exact Or.inl a6
    · refine Or.inr ⟨r, ?_, a7⟩
      have hj0 : j ≠ 0 ∨ j = 0 := by omega
      rcases hj0 with hj0 | hj0
      · obtain ⟨e', g3'⟩ := zat_b h (j - 1) (fun i hi => h4 i (by omega))
        obtain ⟨c1, c2, c3, _⟩ := h4 (j - 1) (by omega)
        have en' := h (zat b (j - 1)) (by omega) (by omega)
        have eA : zNa b' (zat b' (j - 1)) = zNa b (zat b (j - 1)) := by
          rw [e']
          exact zcut_eq en' fun k hk => h _ (by omega) (by rw [en'] at hk; omega)
        have eB : zNa b' (zat b j) = zNa b (zat b j) := zcut_eq en fun k hk => h _ (by omega) (by rw [en] at hk; omega)
        rw [eA, eB]
        exact a6
      · subst hj0
        have eB : zNa b' (zat b 0) = zNa b (zat b 0) := zcut_eq en fun k hk => h _ (by omega) (by rw [en] at hk; omega)
        rw [show zat b' (0 - 1) = zat b 0 from rfl, eB]
        exact a6
  refine ⟨h1, by rw [h 0 (by decide) (by omega), h 1 (by decide) (by omega)]; exact h2, by rw [e2]; exact h3, fun j hj => hmj j (by rw [e2] at hj; exact hj), ?_⟩
  rw [e2, (zat_b h _ (fun i hi => h4 i (by omega))).1]
  exact h5
theorem zMan_i {b b' : Int → Int} {S v : Int} (h : ∀ a, 0 ≤ a → a < S → b' a = b a) : zMan S v b ↔ zMan S v b' := ⟨zMan_c h, zMan_c (fun a h1 h2 => (h a h1 h2).symm)⟩
