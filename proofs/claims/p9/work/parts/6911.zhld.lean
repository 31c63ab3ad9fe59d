/-! Files that are right, files held for each other: the class. -/
/-- an item is the file that the manifest tells of -/
def zRt (m : wm) (t i : Nat) : Prop := m.1 1 (101 + 7 * t + i) 1 = m.1 32 t (i - 1) ∧ zhh (zBR m (101 + 7 * t + i)).2 (m.1 1 (101 + 7 * t + i) 1).toNat = m.2.1 33 t (i - 1)
theorem zRt_fr {e : Nat → Nat → Nat → Prop} {m m1 : wm} {t i : Nat} (hf : zfr e m m1) (h1 : ¬ e 1 (101 + 7 * t + i) 1) (h2 : ∀ j, ¬ e 2 (101 + 7 * t + i) j) (h3 : ¬ e 32 t (i - 1)) (h4 : ¬ e 33 t (i - 1)) : zRt m1 t i ↔ zRt m t i := by
  unfold zRt
  rw [(hf 1 _ 1 h1).1, (hf 32 t _ h3).1, (hf 33 t _ h4).2.1, zBR_fr hf h1 h2]
/-- an item forgotten -/
def zFo (m0 m1 : wm) (t i : Nat) (x : Int) : Prop := zCl m1 t i ∧ (i = 0 → m1.1 26 t 9 = 0 ∧ m1.1 26 t 10 = 0) ∧ zLC m1 = (zLC m0).filter (zkc9 (16 * (2 * m0.1 26 t 7 + x) + 2 * (i : Int)) (16 * (2 * m0.1 26 t 7 + x) + 2 * (i : Int) + 1))
/-- a complete file looked at -/
def zFr (m : wm) (t i : Nat) : Prop := 1 ≤ i ∧ (i : Int) ≤ m.1 26 t 9 ∧ zRt m t i
/-- what is touched where an item is looked at -/
def zEi (t i : Nat) (k a b : Nat) : Prop := (k = 22 ∧ b = 3) ∨ (k = 23) ∨ (k = 24) ∨ (k = 25) ∨ (k = 1 ∧ a = 101 + 7 * t + i ∧ b = 1) ∨ (k = 29 ∧ a = t ∧ b = i) ∨ (k = 28 ∧ a = t ∧ 2 * i ≤ b ∧ b ≤ 2 * i + 1) ∨ (k = 26 ∧ a = t ∧ 9 ≤ b ∧ b ≤ 10 ∧ i = 0)
def zLf (m0 m1 : wm) (t i : Nat) (x : Int) : Prop := zfr (zEi t i) m0 m1 ∧ ((zFr m0 t i ∧ m1.1 29 t i = 1 ∧ zfr (fun k a b => k = 29 ∧ a = t ∧ b = i) m0 m1) ∨ (¬ zFr m0 t i ∧ zFo m0 m1 t i x))
/-- a version holds an item that is alike another one's -/
def zHl (m : wm) (t s i y : Nat) : Prop := m.1 29 t y = 1 ∧ m.1 32 t (y - 1) = m.1 32 s (i - 1) ∧ m.2.1 33 t (y - 1) = m.2.1 33 s (i - 1)
/-- a file held by a copy -/
def zHc (m1 : wm) (t i : Nat) (S : Int) : Prop := m1.1 1 (101 + 7 * t + i) 1 = S ∧ m1.1 29 t i = 1 ∧ m1.1 28 t (2 * i) = 1 ∧ m1.1 28 t (2 * i + 1) = (if 64 < S then 1 else 0)
