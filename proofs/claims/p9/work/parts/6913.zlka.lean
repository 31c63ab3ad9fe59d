/-! An item that has become complete is looked at: the class. -/
def zCpx (m : wm) (t i : Nat) : Prop := m.1 28 t (2 * i) = 1 ∧ (m.1 28 t (2 * i + 1) = 1 ∨ m.1 1 (101 + 7 * t + i) 1 ≤ 64)
def zLc (m : wm) (t i : Nat) : Prop := m.1 26 t 9 < (i : Int) ∨ zCpx m t i
def zLkx (m : wm) (t : Nat) (x : Int) : Nat → wm → Prop
  | 0, m' => m' = m
  | z + 1, m' => ∃ m9, zLkx m t x z m9 ∧ ((zLc m9 t (z + 1) ∧ zLf m9 m' t (z + 1) x) ∨ (¬ zLc m9 t (z + 1) ∧ m' = m9))
def zEmx (t k i j : Nat) : Prop := (k = 26 ∧ i = t ∧ 9 ≤ j ∧ j ≤ 10) ∨ (30 ≤ k ∧ k ≤ 33 ∧ i = t)
/-- item 0 can be this version's manifest -/
def zMs (m : wm) (t : Nat) : Prop := zMan (m.1 1 (101 + 7 * t + 0) 1) (m.1 26 t 7) (zBat m (101 + 7 * t + 0))
/-- what is noted of it -/
def zMt (m0 m1 : wm) (t : Nat) : Prop := m1.1 26 t 9 = zBat m0 (101 + 7 * t + 0) 2 ∧ m1.1 26 t 10 = 1 ∧ ∀ j : Nat, (j : Int) < zBat m0 (101 + 7 * t + 0) 2 → zTm m1 t (zBat m0 (101 + 7 * t + 0)) j
def zLqx (m0 m : wm) (t : Nat) (x : Int) (n : Nat) : Prop := zMs m0 t ∧ ∃ m9, zfr (zEmx t) m0 m9 ∧ zMt m0 m9 t ∧ zLkx m9 t x n m
theorem zLqx_s {m0 m m1 : wm} {t : Nat} {x z : Int} (h : zLqx m0 m t x (z - 1).toNat) (hz : 1 ≤ z) (hc : m.1 26 t 9 < z ∨ zCpx m t z.toNat) (hf : zLf m m1 t z.toNat x) : zLqx m0 m1 t x (z + 1 - 1).toNat := by
  obtain ⟨h1, m9, h2, h3, h4⟩ := h
  refine ⟨h1, m9, h2, h3, ?_⟩
  rw [show (z + 1 - 1).toNat = (z - 1).toNat + 1 by omega]
  refine ⟨m, h4, Or.inl ⟨?_, ?_⟩⟩
  · rw [show (z - 1).toNat + 1 = z.toNat by omega]
    exact hc.elim (fun h => Or.inl (by omega)) Or.inr
  · rw [show (z - 1).toNat + 1 = z.toNat by omega]
    exact hf
theorem zLqx_n {m0 m : wm} {t : Nat} {x z : Int} (h : zLqx m0 m t x (z - 1).toNat) (hz : 1 ≤ z) (hc : ¬ (m.1 26 t 9 < z)) (hd : ¬ zCpx m t z.toNat) : zLqx m0 m t x (z + 1 - 1).toNat := by
  obtain ⟨h1, m9, h2, h3, h4⟩ := h
  refine ⟨h1, m9, h2, h3, ?_⟩
  rw [show (z + 1 - 1).toNat = (z - 1).toNat + 1 by omega]
  refine ⟨m, h4, Or.inr ⟨?_, rfl⟩⟩
  rw [show (z - 1).toNat + 1 = z.toNat by omega]
  exact fun h => h.elim (fun h => hc (by omega)) hd
def zLa (m0 m1 : wm) (t : Nat) (y x : Int) : Prop := (y ≠ 0 ∧ m0.1 26 t 10 = 0 ∧ m0 = m1) ∨ (y ≠ 0 ∧ m0.1 26 t 10 = 1 ∧ zLf m0 m1 t y.toNat x) ∨ (y = 0 ∧ ¬ zMs m0 t ∧ ∃ m9, zfr (zEmx t) m0 m9 ∧ (∀ j : Nat, m9.1 26 t j = m0.1 26 t j) ∧ zFo m9 m1 t 0 x ∧ zfr (zEi t 0) m9 m1) ∨ (y = 0 ∧ zLqx m0 m1 t x 6)
