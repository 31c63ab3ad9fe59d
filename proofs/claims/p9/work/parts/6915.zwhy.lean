/-! Why a packet is dropped: the class. -/
def zHsh (m : wm) (s : Nat) : Prop := zhh (zBR m s).2 16 = zen (fun k => (zBR m s).2 (16 + k)) 8
def zNlf (m0 m1 : wm) (x : Int) : Prop := zfr (fun k i j => (k = 22 ∧ j = 3) ∨ (k = 19 ∧ j = 5)) m0 m1 ∧ ((m0.1 19 0 5 < x ∧ m1.1 19 0 5 = x ∧ m1.1 22 0 3 = 0) ∨ (x ≤ m0.1 19 0 5 ∧ m0 = m1))
def zLe0 (t k i j : Nat) : Prop := (k = 22 ∧ j = 3) ∨ (k = 23) ∨ (k = 24) ∨ (k = 25) ∨ (k = 26 ∧ i < t) ∨ (k = 28 ∧ i < t) ∨ (k = 29 ∧ i < t) ∨ (k = 1 ∧ 101 ≤ i ∧ i < 157 ∧ j = 1)
def zLea (m0 m1 : wm) (x y : Int) (r : Nat) : Prop := (r < 8 ∧ 4 * x.toNat ≤ r ∧ r < 4 * x.toNat + 4) ∧ zfr (zLe0 8) m0 m1 ∧ ((m0.1 26 r 7 = y ∧ m0 = m1) ∨ zLn m0 m1 x y r)
/-- heard, of a life that isn't over -/
def zW1 (m0 m : wm) (s : Nat) : Prop := zHsh m0 s ∧ zNlf m0 m (zBat m0 s 0) ∧ m.1 19 0 5 ≤ zBat m0 s 0
/-- and can be: its version is known -/
def zW2 (m0 m : wm) (s u : Nat) : Prop := ∃ ma, zW1 m0 ma s ∧ zCb ma s ∧ zLea ma m (zBat m0 s 1) (256 * zBat m0 s 2 + zBat m0 s 3) u
def zWo (m : wm) (s u : Nat) : Prop := zOs m u (2 * (256 * zBat m s 2 + zBat m s 3) + zBat m s 1) s ∨ m.1 28 u (2 * (zBat m s 4).toNat + (zBat m s 5).toNat) = 1
def zWk (m : wm) (s : Nat) : Int := 16 * (2 * (256 * zBat m s 2 + zBat m s 3) + zBat m s 1) + 2 * zBat m s 4 + zBat m s 5
def zWt (m : wm) (s : Nat) : Prop := ∃ v, zsq (zKp m (zWk m s)) (zCw m) (zCu0 m) ((zkM m s).toNat, v)
def zW3 (m0 m : wm) (s u : Nat) : Prop := zW2 m0 m s u ∧ ¬ zWo m s u
def zWrx (m m1 : wm) : Prop := (m.1 22 0 3 ≤ 23 ∧ m = m1) ∨ (m.1 22 0 3 = 24 ∧ ∃ o, zMr m (m.1 22 0 3) o ∧ 0 ≤ o ∧ zLC m1 = (zLC m).filter (zkc9 (16 * o) (16 * o + 15)) ∧ zfr (fun k i j => (k = 22 ∧ j = 3) ∨ (k = 23) ∨ (k = 24) ∨ (k = 25)) m m1)
def zWd (m0 m1 : wm) (s : Nat) (r : Int) : Prop := (r = 1 ∧ ¬ zHsh m0 s ∧ m0 = m1) ∨ (r = 2 ∧ zHsh m0 s ∧ zNlf m0 m1 (zBat m0 s 0) ∧ zBat m0 s 0 < m1.1 19 0 5) ∨ (r = 3 ∧ zW1 m0 m1 s ∧ ¬ zCb m1 s) ∨ (r = 4 ∧ ∃ u, zW2 m0 m1 s u ∧ zWo m1 s u) ∨ (r = 5 ∧ ∃ u, zW3 m0 m1 s u ∧ zWt m1 s) ∨ (r = 6 ∧ ∃ u, zW3 m0 m1 s u ∧ ¬ zWt m1 s ∧ m1.1 22 0 3 = 24 ∧ ∀ j, j < zCu0 m1 → zIg m1 (m1.1 23 0 j / 16)) ∨ (r = 0 ∧ ∃ (u : Nat) (m : wm), zW3 m0 m s u ∧ ¬ zWt m s ∧ zWrx m m1)
theorem zCe_nl {m0 m1 : wm} {x : Int} (h : zCe m0) (hn : zNlf m0 m1 x) : zCe m1 := hn.2.elim (fun z => zCe_0 z.2.2) (fun z => z.2 ▸ h)
theorem zCe_le {m0 m1 : wm} {x y : Int} {r : Nat} (h : zCe m0) (hn : (m0.1 26 r 7 = y ∧ m0 = m1) ∨ zLn m0 m1 x y r) : zCe m1 := hn.elim (fun z => z.2 ▸ h) (fun z => zCe_f h z.2.2.1)
