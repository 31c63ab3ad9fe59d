/-! A row that is kept, a block that is solved: the class. -/
theorem zAd_fr {e : Nat → Nat → Nat → Prop} {m0 m m1 : wm} {x y : Int} {v : Int64} (h : zAd m0 m x y v) (hf : zfr e m m1) (h1 : ∀ k j, 22 ≤ k → k ≤ 25 → ¬ e k 0 j) : zAd m0 m1 x y v := by
  have e22 : m1.1 22 0 3 = m.1 22 0 3 := (hf 22 0 3 (h1 22 3 (by decide) (by decide))).1
  have e23 : m1.1 23 0 = m.1 23 0 := funext fun j => (hf 23 0 j (h1 23 j (by decide) (by decide))).1
  have e24 : m1.1 24 0 = m.1 24 0 := funext fun j => (hf 24 0 j (h1 24 j (by decide) (by decide))).1
  have e25 : m1.2.1 25 0 = m.2.1 25 0 := funext fun j => (hf 25 0 j (h1 25 j (by decide) (by decide))).2.1
  unfold zAd zCe zKp zCw zCu0 at h ⊢
  rw [e22, e23, e24, e25]
  exact h
theorem zCe_fr {e : Nat → Nat → Nat → Prop} {m m1 : wm} (h : zCe m) (hf : zfr e m m1) (h1 : ∀ k j, 22 ≤ k → k ≤ 25 → ¬ e k 0 j) : zCe m1 := by
  have e22 : m1.1 22 0 3 = m.1 22 0 3 := (hf 22 0 3 (h1 22 3 (by decide) (by decide))).1
  have e23 : m1.1 23 0 = m.1 23 0 := funext fun j => (hf 23 0 j (h1 23 j (by decide) (by decide))).1
  have e24 : m1.1 24 0 = m.1 24 0 := funext fun j => (hf 24 0 j (h1 24 j (by decide) (by decide))).1
  have e25 : m1.2.1 25 0 = m.2.1 25 0 := funext fun j => (hf 25 0 j (h1 25 j (by decide) (by decide))).2.1
  unfold zCe zKp zCw zCu0 at h ⊢
  rw [e22, e23, e24, e25]
  exact h
theorem zsq_fr {e : Nat → Nat → Nat → Prop} {m m1 : wm} {x : Int} {p : zRo} (hf : zfr e m m1) (h1 : ∀ k j, 22 ≤ k → k ≤ 25 → ¬ e k 0 j) : zsq (zKp m1 x) (zCw m1) (zCu0 m1) p ↔ zsq (zKp m x) (zCw m) (zCu0 m) p := by
  have e22 : m1.1 22 0 3 = m.1 22 0 3 := (hf 22 0 3 (h1 22 3 (by decide) (by decide))).1
  have e23 : m1.1 23 0 = m.1 23 0 := funext fun j => (hf 23 0 j (h1 23 j (by decide) (by decide))).1
  have e24 : m1.1 24 0 = m.1 24 0 := funext fun j => (hf 24 0 j (h1 24 j (by decide) (by decide))).1
  have e25 : m1.2.1 25 0 = m.2.1 25 0 := funext fun j => (hf 25 0 j (h1 25 j (by decide) (by decide))).2.1
  unfold zKp zCw zCu0
  rw [e22, e23, e24, e25]
/-- what a packet says, at the class -/
def zkK (m : wm) (t : Nat) (x : Int) (s : Nat) : Int := 16 * (2 * m.1 26 t 7 + x) + 2 * zBat m s 4 + zBat m s 5
def zkM (m : wm) (s : Nat) : Int := zmk (256 * zBat m s 2 + zBat m s 3) (zBat m s 4) (zBat m s 5) (zBat m s 6) (zpc (zBat m s 7) (zBat m s 5))
def zkV (m : wm) (s : Nat) : Int64 := zen (fun k => (zBR m s).2 (8 + k)) 8
def zkN (m : wm) (s : Nat) : Int := zpc (zBat m s 7) (zBat m s 5)
/-- two rows of a block don't have one mask -/
theorem zCe_1 {m : wm} {x y : Int} (hE : zCe m) (i : Nat) (hi : i < zCu0 m) (hk : m.1 23 0 i = x) (hm : m.1 24 0 i = y) (j : Nat) (hj : j < zCu0 m) (hk2 : m.1 23 0 j = x) (hm2 : m.1 24 0 j = y) : i = j := by
  apply Decidable.byContradiction
  intro hn
  have hPi : zKp m x i = true := decide_eq_true hk
  have hPj : zKp m x j = true := decide_eq_true hk2
  obtain ⟨h1, h2⟩ := hE.2 x i hi hPi
  obtain ⟨p, hp⟩ := zlw_e h1
  have h3 := h2 p hp j hj hPj (fun e => hn e.symm)
  have h4 : (zCw m j).1 = (zCw m i).1 := by show (m.1 24 0 j).toNat = (m.1 24 0 i).toNat; rw [hm, hm2]
  rw [h4, hp.1] at h3
  cases h3
/-- the pieces that are put, up to one -/
def zPp (m0 m : wm) (R : Nat) (K b S z : Int) : Prop := (∀ q : Nat, (q : Int) < z → ∀ i, i < zCu0 m → m.1 23 0 i = K → m.1 24 0 i = wshl 1 (q : Int) → ∀ u : Nat, u < 8 → 64 * b + 8 * (q : Int) + (u : Int) < S → m.1 2 R (64 * b.toNat + 8 * q + u) = zb8 (m.2.1 25 0 i) (8 * (7 - (u : Int)))) ∧ ∀ j : Nat, ((j : Int) < 64 * b ∨ 64 * b + 8 * z ≤ (j : Int)) → m.1 2 R j = m0.1 2 R j
theorem zPp_s {e : Nat → Nat → Nat → Prop} {m0 m m1 : wm} {R : Nat} {K b S z : Int} {v : Int64} (h : zPp m0 m R K b S z) (hf : zfr e m m1) (hz : 0 ≤ z) (hb : 0 ≤ b) (hR : 0 < R) (he : ∀ k i j, e k i j → k = 2 ∧ i = R ∧ (b * 64 + z * 8).toNat ≤ j ∧ j < (b * 64 + z * 8 + 8).toNat) (hv : ∀ i, i < zCu0 m → m.1 23 0 i = K → m.1 24 0 i = wshl 1 z → v = m.2.1 25 0 i) (hp : ∀ u : Nat, (u : Int) < 8 → b * 64 + z * 8 + (u : Int) < S → m1.1 2 R ((b * 64 + z * 8).toNat + u) = zb8 v (8 * (8 - 1 - (u : Int)))) : zPp m0 m1 R K b S (z + 1) := by
  have ne : ∀ k i j, ¬ (k = 2 ∧ i = R ∧ (b * 64 + z * 8).toNat ≤ j ∧ j < (b * 64 + z * 8 + 8).toNat) → ¬ e k i j := fun k i j hn hh => hn (he k i j hh)
  have e22 : zCu0 m1 = zCu0 m := by unfold zCu0; rw [(hf 22 0 3 (ne _ _ _ (by omega))).1]
  have e23 : ∀ i, m1.1 23 0 i = m.1 23 0 i := fun i => (hf 23 0 i (ne _ _ _ (by omega))).1
  have e24 : ∀ i, m1.1 24 0 i = m.1 24 0 i := fun i => (hf 24 0 i (ne _ _ _ (by omega))).1
  have e25 : ∀ i, m1.2.1 25 0 i = m.2.1 25 0 i := fun i => (hf 25 0 i (ne _ _ _ (by omega))).2.1
  refine ⟨fun q hq i hi hk hm u hu hS => ?_, fun j hj => ?_⟩
  · rw [e22] at hi
    rw [e23] at hk
    rw [e24] at hm
    rw [e25]
    by_cases hqz : (q : Int) < z
    · rw [(hf 2 R _ (ne _ _ _ (by omega))).1]
      exact h.1 q hqz i hi hk hm u hu hS
    · have eq : (q : Int) = z := by omega
      rw [eq] at hm hS
      have h9 := hp u (by omega) (by omega)
      rw [show (b * 64 + z * 8).toNat + u = 64 * b.toNat + 8 * q + u by omega, hv i hi hk hm] at h9
      exact h9
  · rw [(hf 2 R j (ne _ _ _ (by omega))).1]
    exact h.2 j (by omega)
/-- the row is added where the item alone was resized -/
theorem zAd_0 {e : Nat → Nat → Nat → Prop} {m0 m m1 : wm} {x y : Int} {v : Int64} (hf : zfr e m0 m) (h1 : ∀ k j, 22 ≤ k → k ≤ 25 → ¬ e k 0 j) (h : zAd m m1 x y v) : zAd m0 m1 x y v := by
  have e22 : m.1 22 0 3 = m0.1 22 0 3 := (hf 22 0 3 (h1 22 3 (by decide) (by decide))).1
  have e23 : m.1 23 0 = m0.1 23 0 := funext fun j => (hf 23 0 j (h1 23 j (by decide) (by decide))).1
  have e24 : m.1 24 0 = m0.1 24 0 := funext fun j => (hf 24 0 j (h1 24 j (by decide) (by decide))).1
  have e25 : m.2.1 25 0 = m0.2.1 25 0 := funext fun j => (hf 25 0 j (h1 25 j (by decide) (by decide))).2.1
  unfold zAd zKp zCw zCu0 at h ⊢
  rw [e22, e23, e24, e25] at h
  exact h
