/-! Versions hold files for each other: the class. -/
def zHox (m : wm) (x y z : Int) (w : Nat) : Prop := ∃ q : Nat, 1 ≤ q ∧ (q : Int) ≤ m.1 26 (4 * x.toNat + w) 9 ∧ zHl m (4 * x.toNat + w) (4 * x.toNat + y.toNat) z.toNat q
/-- nothing more to be held for this item -/
def zHz (m : wm) (x y z : Int) : Prop := m.1 29 (4 * x.toNat + y.toNat) z.toNat = 1 ∨ ∀ w : Nat, w < 4 → w ≠ y.toNat → ¬ zHox m x y z w
def zEh (t i : Nat) (k a b : Nat) : Prop := (k = 22 ∧ b = 3) ∨ (k = 23) ∨ (k = 24) ∨ (k = 25) ∨ (k = 1 ∧ a = 101 + 7 * t + i ∧ b = 1) ∨ (k = 2 ∧ a = 101 + 7 * t + i) ∨ (k = 29 ∧ a = t ∧ b = i) ∨ (k = 28 ∧ a = t ∧ 2 * i ≤ b ∧ b ≤ 2 * i + 1)
/-- it is held by a copy -/
def zHsx (m0 m1 : wm) (x y z : Int) : Prop := m0.1 29 (4 * x.toNat + y.toNat) z.toNat = 0 ∧ zfr (zEh (4 * x.toNat + y.toNat) z.toNat) m0 m1 ∧ zLC m1 = (zLC m0).filter (zkc9 (16 * (2 * m0.1 26 (4 * x.toNat + y.toNat) 7 + x) + 2 * z) (16 * (2 * m0.1 26 (4 * x.toNat + y.toNat) 7 + x) + 2 * z + 1)) ∧ ∃ w q : Nat, w < 4 ∧ w ≠ y.toNat ∧ 1 ≤ q ∧ (q : Int) ≤ m0.1 26 (4 * x.toNat + w) 9 ∧ zHl m0 (4 * x.toNat + w) (4 * x.toNat + y.toNat) z.toNat q ∧ zHc m1 (4 * x.toNat + y.toNat) z.toNat (m0.1 1 (101 + 7 * (4 * x.toNat + w) + q) 1)
def zHkn (x : Int) (m0 : wm) : Nat → wm → Prop
  | 0, m => m = m0
  | n + 1, m1 => ∃ (m : wm) (y z : Int), zHkn x m0 n m ∧ 0 ≤ y ∧ y ≤ 3 ∧ 1 ≤ z ∧ z ≤ m.1 26 (4 * x.toNat + y.toNat) 9 ∧ zHsx m m1 x y z
def zHk (x : Int) (m0 m : wm) : Prop := ∃ n, zHkn x m0 n m
theorem zHk_rf {x : Int} {m0 : wm} : zHk x m0 m0 := ⟨0, rfl⟩
theorem zHk_st {x y z : Int} {m0 m m1 : wm} (h : zHk x m0 m) (h1 : 0 ≤ y) (h2 : y ≤ 3) (h3 : 1 ≤ z) (h4 : z ≤ m.1 26 (4 * x.toNat + y.toNat) 9) (h5 : zHsx m m1 x y z) : zHk x m0 m1 := by
  obtain ⟨n, h⟩ := h
  exact ⟨n + 1, m, y, z, h, h1, h2, h3, h4, h5⟩
def zHcl (m : wm) (x : Int) : Prop := ∀ y z : Int, 0 ≤ y → y ≤ 3 → 1 ≤ z → z ≤ m.1 26 (4 * x.toNat + y.toNat) 9 → zHz m x y z
/-- how many are held -/
def zcnx (f : Nat → Int) : Nat → Int
  | 0 => 0
  | n + 1 => zcnx f n + f n
theorem zcnx_c {f g : Nat → Int} : ∀ n : Nat, (∀ q, q < n → g q = f q) → zcnx g n = zcnx f n := by
  intro n
  induction n with
  | zero => intro _; rfl
  | succ n ih =>
    intro h
    show zcnx g n + g n = zcnx f n + f n
    rw [ih (fun q hq => h q (by omega)), h n (by omega)]
theorem zcnx_1 {f g : Nat → Int} {q0 : Nat} (h1 : g q0 = f q0 + 1) : ∀ n : Nat, q0 < n → (∀ q, q < n → q ≠ q0 → g q = f q) → zcnx g n = zcnx f n + 1 := by
  intro n
  induction n with
  | zero => intro h; exact absurd h (by omega)
  | succ n ih =>
    intro hq h
    show zcnx g n + g n = zcnx f n + f n + 1
    by_cases hn : q0 = n
    · rw [zcnx_c n (fun q hq => h q (by omega) (by omega)), ← hn, h1]; omega
    · rw [ih (by omega) (fun q hq hne => h q (by omega) hne), h n (by omega) (by omega)]; omega
theorem zcnx_le {f : Nat → Int} (h : ∀ q, f q ≤ 1) : ∀ n : Nat, zcnx f n ≤ (n : Int) := by
  intro n
  induction n with
  | zero => exact Int.le_refl _
  | succ n ih =>
    have := h n
    show zcnx f n + f n ≤ _
    omega
def zHm (m : wm) (x : Int) : Int := zcnx (fun q => m.1 29 (4 * x.toNat + q / 6) (q % 6 + 1)) 24
theorem zHm_le {c : Int} {m : wm} {x : Int} (hG : zB c m) : zHm m x ≤ 24 := zcnx_le (fun q => (hG.1 29 _ rfl _ _).2) 24
theorem zHm_s {m0 m1 : wm} {x y z : Int} (h : zHsx m0 m1 x y z) (hy : 0 ≤ y ∧ y ≤ 3) (hz : 1 ≤ z ∧ z ≤ 6) : zHm m1 x = zHm m0 x + 1 := by
  obtain ⟨h1, h2, _, w, q, _, _, _, _, _, h3⟩ := h
  have eq1 : (6 * y.toNat + (z.toNat - 1)) / 6 = y.toNat := by omega
  have eq2 : (6 * y.toNat + (z.toNat - 1)) % 6 + 1 = z.toNat := by omega
  refine zcnx_1 (q0 := 6 * y.toNat + (z.toNat - 1)) ?_ 24 (by omega) (fun q hq hne => ?_)
  · show m1.1 29 (4 * x.toNat + (6 * y.toNat + (z.toNat - 1)) / 6) ((6 * y.toNat + (z.toNat - 1)) % 6 + 1) = m0.1 29 (4 * x.toNat + (6 * y.toNat + (z.toNat - 1)) / 6) ((6 * y.toNat + (z.toNat - 1)) % 6 + 1) + 1
    rw [eq1, eq2, h3.2.1, h1]
    rfl
  · refine (h2 29 _ _ (fun e => ?_)).1
    unfold zEh at e
    omega
theorem worb {b r : Int} (hb : b = 0 ∨ b = 1) (hr : r = 0 ∨ r = 1) : wor b r = max b r := by
  rcases hb with rfl | rfl <;> rcases hr with rfl | rfl <;> decide
def zHvx (m : wm) (x z w : Int) : Prop := ∀ p q : Int, 0 ≤ p → p ≤ 3 → 1 ≤ q → q ≤ m.1 26 (4 * x.toNat + p.toNat) 9 → (p < z ∨ (p = z ∧ q < w)) → zHz m x p q
theorem zHvx_0 {m : wm} {x : Int} : zHvx m x 0 1 := fun p q h1 h2 h3 h4 h5 => absurd h5 (by omega)
theorem zHvx_s {m : wm} {x z w : Int} (h : zHvx m x z w) (hz : zHz m x z w) : zHvx m x z (w + 1) := fun p q h1 h2 h3 h4 h5 =>
  (Decidable.em (p = z ∧ q = w)).elim (fun e => by rw [e.1, e.2]; exact hz) (fun e => h p q h1 h2 h3 h4 (by omega))
theorem zHvx_n {m : wm} {x z w : Int} {t : Nat} (h : zHvx m x z w) (ht : t = 4 * x.toNat + z.toNat) (hw : m.1 26 t 9 < w) : zHvx m x (z + 1) 1 := fun p q h1 h2 h3 h4 h5 =>
  h p q h1 h2 h3 h4 ((Decidable.em (p = z)).elim (fun e => Or.inr ⟨e, by rw [e, ← ht] at h4; omega⟩) (fun e => by omega))
theorem zHvx_4 {m : wm} {x : Int} (h : zHvx m x 4 1) : zHcl m x := fun p q h1 h2 h3 h4 => h p q h1 h2 h3 h4 (by omega)
theorem zcnx_0 {f : Nat → Int} (h : ∀ q, 0 ≤ f q) : ∀ n : Nat, 0 ≤ zcnx f n := by
  intro n
  induction n with
  | zero => exact Int.le_refl _
  | succ n ih =>
    have := h n
    show 0 ≤ zcnx f n + f n
    omega
theorem zHm_0 {c : Int} {m : wm} {x : Int} (hG : zB c m) : 0 ≤ zHm m x := zcnx_0 (fun q => (hG.1 29 _ rfl _ _).1) 24
