/-! What is there of a version: both sides. -/
/-- an item of the class that was cleared -/
def zCl (m : wm) (t i : Nat) : Prop := m.1 1 (101 + 7 * t + i) 1 = 0 ∧ m.1 29 t i = 0 ∧ m.1 28 t (2 * i) = 0 ∧ m.1 28 t (2 * i + 1) = 0
theorem zCl_fr {e : Nat → Nat → Nat → Prop} {m m1 : wm} {t i : Nat} (h : zCl m t i) (hf : zfr e m m1) (h1 : ¬ e 1 (101 + 7 * t + i) 1) (h2 : ¬ e 29 t i) (h3 : ¬ e 28 t (2 * i)) (h4 : ¬ e 28 t (2 * i + 1)) : zCl m1 t i :=
  ⟨(hf 1 _ 1 h1).1.trans h.1, (hf 29 t i h2).1.trans h.2.1, (hf 28 t _ h3).1.trans h.2.2.1, (hf 28 t _ h4).1.trans h.2.2.2⟩
/-- the greatest number of a folder -/
def zGx (m : wm) (f : Nat) (g : Int) : Prop := g = 0 ∨ ∃ q : Nat, q < 4 ∧ g = m.1 26 (4 * f + q) 7
theorem zGx_i {m : wm} {f q : Nat} {g : Int} (hq : q < 4) (h : g = m.1 26 (4 * f + q) 7) : zGx m f g := Or.inr ⟨q, hq, h⟩
def zGt (m : wm) (f : Nat) (g : Int) : Prop := (∀ q : Nat, q < 4 → m.1 26 (4 * f + q) 7 ≤ g) ∧ zGx m f g
theorem zGt_u {m : wm} {f : Nat} {g g' : Int} (h : zGt m f g) (h' : zGt m f g') (h0 : 0 ≤ g) (h0' : 0 ≤ g') : g = g' := by
  have a : g ≤ g' := by
    rcases h.2 with e | ⟨q, hq, e⟩
    · omega
    · rw [e]; exact h'.1 q hq
  have b : g' ≤ g := by
    rcases h'.2 with e | ⟨q, hq, e⟩
    · omega
    · rw [e]; exact h.1 q hq
  omega
