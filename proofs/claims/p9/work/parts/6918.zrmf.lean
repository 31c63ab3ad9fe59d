/-! The reference's receiver: what a manifest tells, files that are right, files shared. -/
theorem zby_e {m : wm} {f : Int} : (fun a : Int => m.1 56 0 (104 * (7 * f) + a).toNat) = zby m f := by
  funext a
  unfold zby
  rw [show 104 * (7 * f) + a = 728 * f + a by omega]
theorem zby_a {m : wm} {f : Int} (a : Int) : m.1 56 0 (104 * (7 * f) + a).toNat = zby m f a := congrFun zby_e a
/-- a name below another -/
def zBw (b : Int → Int) (x y : Int) : Prop := ∃ r, zCm (zNa b x) (zNa b y) r ∧ r < 0
theorem zNa_2 {b : Int → Int} {a : Int} {k : Nat} (h : (k : Int) < b a) : (zNa b a).2 k = b (a + 1 + (k : Int)) := zcut_2 h
theorem zBw_d {b : Int → Int} {x y k : Int} (h1 : 1 ≤ k) (h2 : k ≤ b x) (h3 : k ≤ b y) (he : ∀ j : Nat, (j : Int) < k - 1 → b (x + 1 + (j : Int)) = b (y + 1 + (j : Int))) (hd : b (x + k) ≠ b (y + k)) : zCm (zNa b x) (zNa b y) (b (x + k) - b (y + k)) := by
  refine Or.inl ⟨(k - 1).toNat, ?_, ?_, fun j hj => ?_, ?_, ?_⟩
  · show (((k - 1).toNat : Nat) : Int) < b x
    omega
  · show (((k - 1).toNat : Nat) : Int) < b y
    omega
  · rw [zNa_2 (by omega), zNa_2 (by omega)]
    exact he j (by omega)
  · rw [zNa_2 (by omega), zNa_2 (by omega), show x + 1 + (((k - 1).toNat : Nat) : Int) = x + k by omega, show y + 1 + (((k - 1).toNat : Nat) : Int) = y + k by omega]
    exact hd
  · rw [zNa_2 (by omega), zNa_2 (by omega), show x + 1 + (((k - 1).toNat : Nat) : Int) = x + k by omega, show y + 1 + (((k - 1).toNat : Nat) : Int) = y + k by omega]
theorem zBw_e {b : Int → Int} {x y k : Int} (h2 : b x < k ∨ b y < k) (he : ∀ j : Nat, (j : Int) < k - 1 → b (x + 1 + (j : Int)) = b (y + 1 + (j : Int))) : zCm (zNa b x) (zNa b y) (b x - b y) := by
  refine Or.inr ⟨fun j hj1 hj2 => ?_, rfl⟩
  have a1 : (j : Int) < b x := hj1
  have a2 : (j : Int) < b y := hj2
  rw [zNa_2 a1, zNa_2 a2]
  exact he j (by omega)
theorem zBw_y {b : Int → Int} {x y r : Int} (h : zCm (zNa b x) (zNa b y) r) (hr : r < 0) : zBw b x y := ⟨r, h, hr⟩
theorem zBw_n {b : Int → Int} {x y r : Int} (h : zCm (zNa b x) (zNa b y) r) (hr : ¬ r < 0) : ¬ zBw b x y := fun ⟨r', h1, h2⟩ => hr (by rw [zCm_u h h1]; exact h2)
/-- what the manifest of a place tells of a file -/
def zSt (m : wm) (f i : Int) : Int := zby m f (zat (zby m f) (i - 1).toNat + 1 + zby m f (zat (zby m f) (i - 1).toNat))
def zHt (m : wm) (f i : Int) : Int64 := zen (fun k : Nat => zby m f (zat (zby m f) i.toNat - 8 + (k : Int))) 8
def zMsR (m : wm) (f : Int) : Prop := zMan (m.1 54 0 (7 * f).toNat) (m.1 50 0 f.toNat) (zby m f)
/-- an item that is complete -/
def zCmR (m : wm) (Q : Int) : Prop := 0 ≤ m.1 54 0 Q.toNat ∧ m.1 55 0 (2 * Q).toNat = 1 ∧ (m.1 54 0 Q.toNat ≤ 64 ∨ m.1 55 0 (2 * Q + 1).toNat = 1)
/-- an item that is the file told of -/
def zRtR (m : wm) (f i : Int) : Prop := i ≤ m.1 52 0 f.toNat ∧ m.1 54 0 (7 * f + i).toNat = zSt m f i ∧ zhh (fun k : Nat => m.1 56 0 (104 * (7 * f + i) + (k : Int)).toNat) (m.1 54 0 (7 * f + i).toNat).toNat = zHt m f i
def zeF (k i j : Nat) : Prop := (k = 58) ∨ (k = 59) ∨ (k = 60) ∨ (k = 61) ∨ (k = 34 ∧ j = 30) ∨ (k = 54) ∨ (k = 55) ∨ (k = 57)
def zFgR (m0 m1 : wm) (Q : Int) : Prop := zfr zeF m0 m1 ∧ zFg m0 m1 Q ∧ zLR m1 = (zLR m0).filter (zkq Q Q (-1))
def zCo1 (m0 m1 : wm) (f i : Int) : Prop := ((¬ zCmR m0 (7 * f + i) ∨ m0.1 57 0 (7 * f + i).toNat = 1) ∧ m0 = m1) ∨ (zCmR m0 (7 * f + i) ∧ m0.1 57 0 (7 * f + i).toNat ≠ 1 ∧ ((zRtR m0 f i ∧ m1 = wuI m0 57 0 (7 * f + i).toNat 1) ∨ (¬ zRtR m0 f i ∧ zFgR m0 m1 (7 * f + i))))
def zCo2 (m0 m1 : wm) (f k : Int) : Prop := (m0.1 52 0 f.toNat < k ∧ zFgR m0 m1 (7 * f + k)) ∨ (k ≤ m0.1 52 0 f.toNat ∧ zCo1 m0 m1 f k)
def zLkR (m : wm) (f : Int) : Nat → wm → Prop
  | 0, m1 => m1 = m
  | n + 1, m1 => ∃ m', zLkR m f n m' ∧ zCo2 m' m1 f ((n : Int) + 1)
theorem zLkR_s {m m1 m2 : wm} {f k : Int} (h : zLkR m f (k - 1).toNat m1) (hk : 1 ≤ k) (hc : zCo2 m1 m2 f k) : zLkR m f (k + 1 - 1).toNat m2 := by
  rw [show (k + 1 - 1).toNat = (k - 1).toNat + 1 by omega]
  exact ⟨m1, h, by rw [show (((k - 1).toNat : Nat) : Int) + 1 = k by omega]; exact hc⟩
/-- the last block of an item was solved -/
def zCo (m0 m1 : wm) (f i : Int) : Prop := (1 ≤ i ∧ m0.1 51 0 f.toNat = 0 ∧ m0 = m1) ∨ (1 ≤ i ∧ m0.1 51 0 f.toNat = 1 ∧ zCo1 m0 m1 f i) ∨ (i = 0 ∧ ¬ zMsR m0 f ∧ zFgR m0 m1 (7 * f)) ∨ (i = 0 ∧ zMsR m0 f ∧ zLkR (wuI (wuI m0 51 0 f.toNat 1) 52 0 f.toNat (zby m0 f 2)) f 6 m1)
/-- a file alike another -/
def zAl (m : wm) (f i g k : Int) : Prop := m.1 57 0 (7 * g + k).toNat = 1 ∧ m.1 54 0 (7 * g + k).toNat = zSt m f i ∧ zHt m g k = zHt m f i
def zeB (k i j : Nat) : Prop := (k = 58) ∨ (k = 59) ∨ (k = 60) ∨ (k = 61) ∨ (k = 34 ∧ j = 30) ∨ (k = 54) ∨ (k = 55) ∨ (k = 57) ∨ (k = 56)
def zBo (m0 m1 : wm) (f i : Int) : Prop := m0.1 57 0 (7 * f + i).toNat ≠ 1 ∧ zfr zeB m0 m1 ∧ zHo m0 m1 (7 * f + i) ∧ zLR m1 = (zLR m0).filter (zkq (7 * f + i) (7 * f + i) (-1)) ∧ ∃ g k : Int, (f / 4 * 4 ≤ g ∧ g < f / 4 * 4 + 4 ∧ g ≠ f ∧ 1 ≤ k ∧ k ≤ 6) ∧ zAl m0 f i g k ∧ (∀ j : Int, 0 ≤ j → m1.1 54 0 j.toNat = if j = 7 * f + i then m0.1 54 0 (7 * g + k).toNat else m0.1 54 0 j.toNat) ∧ (∀ j : Int, 0 ≤ j → m1.1 55 0 j.toNat = if j = 2 * (7 * f + i) + 1 then (if 64 < m0.1 54 0 (7 * g + k).toNat then 1 else 0) else if j = 2 * (7 * f + i) then 1 else m0.1 55 0 j.toNat) ∧ ∀ j : Int, 0 ≤ j → (j < 104 * (7 * f + i) ∨ 104 * (7 * f + i) + 104 ≤ j) → m1.1 56 0 j.toNat = m0.1 56 0 j.toNat
/-- nothing more to be shared for this file -/
def zBz (m : wm) (f i : Int) : Prop := m.1 57 0 (7 * f + i).toNat = 1 ∨ ∀ g k : Int, f / 4 * 4 ≤ g → g < f / 4 * 4 + 4 → g ≠ f → 1 ≤ k → k ≤ 6 → ¬ zAl m f i g k
def zBkn (x : Int) (m0 : wm) : Nat → wm → Prop
  | 0, m1 => m1 = m0
  | n + 1, m1 => ∃ m p i, zBkn x m0 n m ∧ (4 * x ≤ p ∧ p < 4 * x + 4 ∧ 1 ≤ i ∧ i ≤ m.1 52 0 p.toNat ∧ m.1 51 0 p.toNat = 1) ∧ zBo m m1 p i
def zBk (x : Int) (m0 m : wm) : Prop := ∃ n, zBkn x m0 n m
theorem zBk_rf {x : Int} {m : wm} : zBk x m m := ⟨0, rfl⟩
theorem zBk_st {x p i : Int} {m0 m m1 : wm} (h : zBk x m0 m) (h1 : 4 * x ≤ p ∧ p < 4 * x + 4 ∧ 1 ≤ i ∧ i ≤ m.1 52 0 p.toNat ∧ m.1 51 0 p.toNat = 1) (h2 : zBo m m1 p i) : zBk x m0 m1 := by
  obtain ⟨n, h⟩ := h
  exact ⟨n + 1, m, p, i, h, h1, h2⟩
def zBcl (m : wm) (x : Int) : Prop := ∀ p i : Int, 4 * x ≤ p → p < 4 * x + 4 → m.1 51 0 p.toNat = 1 → 1 ≤ i → i ≤ m.1 52 0 p.toNat → zBz m p i
def zBvx (m : wm) (x g w : Int) : Prop := ∀ p i : Int, 4 * x ≤ p → p < 4 * x + 4 → m.1 51 0 p.toNat = 1 → 1 ≤ i → i ≤ m.1 52 0 p.toNat → (p < g ∨ (p = g ∧ i < w)) → zBz m p i
theorem zBvx_0 {m : wm} {x : Int} : zBvx m x (4 * x) 1 := fun p i h1 h2 h3 h4 h5 h6 => absurd h6 (by omega)
theorem zBvx_s {m : wm} {x g w : Int} (h : zBvx m x g w) (hz : zBz m g w) : zBvx m x g (w + 1) := fun p i h1 h2 h3 h4 h5 h6 => by
  by_cases e : p = g ∧ i = w
  · rw [e.1, e.2]; exact hz
  · exact h p i h1 h2 h3 h4 h5 (by omega)
theorem zBvx_n {m : wm} {x g w : Int} (h : zBvx m x g w) (hw : m.1 51 0 g.toNat ≠ 1 ∨ m.1 52 0 g.toNat < w) : zBvx m x (g + 1) 1 := fun p i h1 h2 h3 h4 h5 h6 => by
  by_cases e : p = g
  · subst e
    exact h p i h1 h2 h3 h4 h5 (Or.inr ⟨rfl, by rcases hw with hw | hw; exact absurd h3 hw; omega⟩)
  · exact h p i h1 h2 h3 h4 h5 (by omega)
theorem zBvx_4 {m : wm} {x g w : Int} (h : zBvx m x g w) (hg : 4 * x + 4 ≤ g) : zBcl m x := fun p i h1 h2 h3 h4 h5 => h p i h1 h2 h3 h4 h5 (by omega)
