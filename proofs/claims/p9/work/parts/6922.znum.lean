/-! Both receivers side by side: which versions are known. -/
def zNm2 (cn kn : Nat → Int) : Prop := zSo kn ∧ (∀ t, t < 8 → 0 ≤ cn t) ∧ (∀ t t', t < 8 → t' < 8 → t / 4 = t' / 4 → cn t = cn t' → cn t ≠ 0 → t = t') ∧ (∀ t, t < 8 → cn t ≠ 0 → ∃ p, p < 8 ∧ p / 4 = t / 4 ∧ kn p = cn t) ∧ ∀ p, p < 8 → kn p ≠ 0 → ∃ t, t < 8 ∧ t / 4 = p / 4 ∧ cn t = kn p
theorem zpigd : ∀ a b c d z : Fin 4, ¬ (a ≠ b ∧ a ≠ c ∧ a ≠ d ∧ b ≠ c ∧ b ≠ d ∧ c ≠ d ∧ a ≠ z ∧ b ≠ z ∧ c ≠ z ∧ d ≠ z) := by decide +kernel
theorem zpign {f a b c d z : Nat} (ha : a / 4 = f) (hb : b / 4 = f) (hc : c / 4 = f) (hd : d / 4 = f) (hz : z / 4 = f) (n1 : a ≠ b) (n2 : a ≠ c) (n3 : a ≠ d) (n4 : b ≠ c) (n5 : b ≠ d) (n6 : c ≠ d) (n7 : a ≠ z) (n8 : b ≠ z) (n9 : c ≠ z) (n0 : d ≠ z) : False := by
  have e : ∀ {x y : Nat}, x / 4 = f → y / 4 = f → x ≠ y → (⟨x % 4, Nat.mod_lt _ (by decide)⟩ : Fin 4) ≠ ⟨y % 4, Nat.mod_lt _ (by decide)⟩ := fun {x y} h1 h2 h3 h4 => h3 (by have := Fin.mk.inj h4; omega)
  exact zpigd _ _ _ _ _ ⟨e ha hb n1, e ha hc n2, e ha hd n3, e hb hc n4, e hb hd n5, e hc hd n6, e ha hz n7, e hb hz n8, e hc hz n9, e hd hz n0⟩
theorem zNm2_0 {cn kn : Nat → Int} (h : zNm2 cn kn) {f : Nat} (hf : f < 2) : (∃ t, t / 4 = f ∧ cn t = 0) ↔ kn (4 * f) = 0 := by
  obtain ⟨h1, h2, h3, h4, h5⟩ := h
  constructor
  · rintro ⟨z, z1, z2⟩
    apply Decidable.byContradiction
    intro h0
    have a0 := h1 (4 * f) (by omega)
    have b1 := zSo_lt h1 (p := 4 * f) (p' := 4 * f + 1) (by omega) (by omega) (by omega)
    have b2 := zSo_lt h1 (p := 4 * f) (p' := 4 * f + 2) (by omega) (by omega) (by omega)
    have b3 := zSo_lt h1 (p := 4 * f) (p' := 4 * f + 3) (by omega) (by omega) (by omega)
    have b4 := zSo_lt h1 (p := 4 * f + 1) (p' := 4 * f + 2) (by omega) (by omega) (by omega)
    have b5 := zSo_lt h1 (p := 4 * f + 1) (p' := 4 * f + 3) (by omega) (by omega) (by omega)
    have b6 := zSo_lt h1 (p := 4 * f + 2) (p' := 4 * f + 3) (by omega) (by omega) (by omega)
    obtain ⟨t0, u0, v0, w0⟩ := h5 (4 * f) (by omega) h0
    obtain ⟨t1, u1, v1, w1⟩ := h5 (4 * f + 1) (by omega) (by omega)
    obtain ⟨t2, u2, v2, w2⟩ := h5 (4 * f + 2) (by omega) (by omega)
    obtain ⟨t3, u3, v3, w3⟩ := h5 (4 * f + 3) (by omega) (by omega)
    refine zpign (f := f) (a := t0) (b := t1) (c := t2) (d := t3) (z := z) (by omega) (by omega) (by omega) (by omega) z1 ?_ ?_ ?_ ?_ ?_ ?_ ?_ ?_ ?_ ?_
    all_goals (intro e; subst e; omega)
  · intro h0
    apply Classical.byContradiction
    intro hn
    have nz : ∀ t, t / 4 = f → cn t ≠ 0 := fun t ht e => hn ⟨t, ht, e⟩
    obtain ⟨t0, u0, v0, w0⟩ := h4 (4 * f) (by omega) (nz _ (by omega))
    obtain ⟨t1, u1, v1, w1⟩ := h4 (4 * f + 1) (by omega) (nz _ (by omega))
    obtain ⟨t2, u2, v2, w2⟩ := h4 (4 * f + 2) (by omega) (nz _ (by omega))
    obtain ⟨t3, u3, v3, w3⟩ := h4 (4 * f + 3) (by omega) (nz _ (by omega))
    have m0 := nz (4 * f) (by omega)
    have m1 := nz (4 * f + 1) (by omega)
    have m2 := nz (4 * f + 2) (by omega)
    have m3 := nz (4 * f + 3) (by omega)
    have d : ∀ i j, i / 4 = f → j / 4 = f → i ≠ j → cn i ≠ cn j := fun i j hi hj hne e => hne (h3 i j (by omega) (by omega) (by omega) e (nz i hi))
    have d1 := d (4 * f) (4 * f + 1) (by omega) (by omega) (by omega)
    have d2 := d (4 * f) (4 * f + 2) (by omega) (by omega) (by omega)
    have d3 := d (4 * f) (4 * f + 3) (by omega) (by omega) (by omega)
    have d4 := d (4 * f + 1) (4 * f + 2) (by omega) (by omega) (by omega)
    have d5 := d (4 * f + 1) (4 * f + 3) (by omega) (by omega) (by omega)
    have d6 := d (4 * f + 2) (4 * f + 3) (by omega) (by omega) (by omega)
    refine zpign (f := f) (a := t0) (b := t1) (c := t2) (d := t3) (z := 4 * f) (by omega) (by omega) (by omega) (by omega) (by omega) ?_ ?_ ?_ ?_ ?_ ?_ ?_ ?_ ?_ ?_
    all_goals (intro e; subst e; omega)
/-- the least -/
theorem zNm2_min {cn kn : Nat → Int} (h : zNm2 cn kn) {f r : Nat} (hf : f < 2) (hr : r / 4 = f) (hl : ∀ q, q < 4 → cn r ≤ cn (4 * f + q)) : cn r = kn (4 * f) := by
  have hl2 : ∀ t, t / 4 = f → cn r ≤ cn t := fun t ht => by
    have := hl (t % 4) (by omega)
    rwa [show 4 * f + t % 4 = t by omega] at this
  have z := zNm2_0 h hf
  obtain ⟨h1, h2, h3, h4, h5⟩ := h
  have p0 := h2 r (by omega)
  have q0 := h1 (4 * f) (by omega)
  by_cases e : kn (4 * f) = 0
  · obtain ⟨t, t1, t2⟩ := z.2 e
    have := hl2 t t1
    omega
  · obtain ⟨t, t1, t2, t3⟩ := h5 _ (by omega) e
    have a := hl2 t (by omega)
    have b : cn r ≠ 0 := fun y => e (z.1 ⟨r, hr, y⟩)
    obtain ⟨p, p1, p2, p3⟩ := h4 r (by omega) b
    by_cases e2 : p = 4 * f
    · rw [← e2]; exact p3.symm
    · have := zSo_lt h1 (p := 4 * f) (p' := p) p1 (by omega) (by omega)
      omega
/-- too old for both -/
theorem zNm2_le {cn kn : Nat → Int} (h : zNm2 cn kn) {f : Nat} (hf : f < 2) {x : Int} (hx : 1 ≤ x) : (∃ q, q < 4 ∧ cn (4 * f + q) ≤ x) ↔ (kn (4 * f) = 0 ∨ kn (4 * f) ≤ x) := by
  have z := zNm2_0 h hf
  obtain ⟨h1, h2, h3, h4, h5⟩ := h
  constructor
  · rintro ⟨q, q1, q2⟩
    by_cases e : cn (4 * f + q) = 0
    · exact Or.inl (z.1 ⟨_, by omega, e⟩)
    · obtain ⟨p, p1, p2, p3⟩ := h4 _ (by omega) e
      by_cases e2 : p = 4 * f
      · rw [← e2]; omega
      · have := zSo_lt h1 (p := 4 * f) (p' := p) p1 (by omega) (by omega)
        omega
  · rintro h0
    by_cases e : kn (4 * f) = 0
    · obtain ⟨t, t1, t2⟩ := z.2 e
      exact ⟨t % 4, by omega, by rw [show 4 * f + t % 4 = t by omega]; omega⟩
    · obtain ⟨t, t1, t2, t3⟩ := h5 _ (by omega) e
      exact ⟨t % 4, by omega, by rw [show 4 * f + t % 4 = t by omega]; omega⟩
/-- a version known to one is known to the other -/
theorem zNm2_in {cn kn : Nat → Int} (h : zNm2 cn kn) {f : Nat} (hf : f < 2) {x : Int} (hx : x ≠ 0) : (∀ q, q < 4 → cn (4 * f + q) ≠ x) ↔ ∀ q, q < 4 → kn (4 * f + q) ≠ x := by
  obtain ⟨h1, h2, h3, h4, h5⟩ := h
  constructor
  · intro hn q hq e
    obtain ⟨t, t1, t2, t3⟩ := h5 (4 * f + q) (by omega) (by omega)
    exact hn (t % 4) (by omega) (by rw [show 4 * f + t % 4 = t by omega]; omega)
  · intro hn q hq e
    obtain ⟨t, t1, t2, t3⟩ := h4 (4 * f + q) (by omega) (by omega)
    exact hn (t % 4) (by omega) (by rw [show 4 * f + t % 4 = t by omega]; omega)
/-- the greatest -/
theorem zNm2_max {cn kn : Nat → Int} (h : zNm2 cn kn) {f : Nat} (hf : f < 2) {g : Int} (h0 : 0 ≤ g) (hg : ∀ q, q < 4 → cn (4 * f + q) ≤ g) (hx : g = 0 ∨ ∃ q, q < 4 ∧ g = cn (4 * f + q)) : g = kn (4 * f + 3) := by
  obtain ⟨h1, h2, h3, h4, h5⟩ := h
  have k0 := h1 (4 * f + 3) (by omega)
  have up : kn (4 * f + 3) ≤ g := by
    by_cases e : kn (4 * f + 3) = 0
    · omega
    · obtain ⟨t, t1, t2, t3⟩ := h5 _ (by omega) e
      have := hg (t % 4) (by omega)
      rw [show 4 * f + t % 4 = t by omega] at this
      omega
  rcases hx with hx | ⟨q, q1, q2⟩
  · omega
  · by_cases e : g = 0
    · omega
    · obtain ⟨p, p1, p2, p3⟩ := h4 (4 * f + q) (by omega) (by omega)
      by_cases e2 : p = 4 * f + 3
      · rw [← e2]; omega
      · have := zSo_lt h1 (p := p) (p' := 4 * f + 3) (by omega) (by omega) (by omega)
        omega
def zKs (kn kn' : Nat → Int) (f a : Nat) (x : Int) : Prop := ∀ p, p < 8 → (4 * f ≤ p → p < a → kn' p = kn (p + 1)) ∧ (p = a → kn' p = x) ∧ (p < 4 * f ∨ a < p → kn' p = kn p)
/-- one more version -/
theorem zNm2_new {cn cn' kn kn' : Nat → Int} {f a r : Nat} {x : Int} (h : zNm2 cn kn) (hf : f < 2) (hx : 1 ≤ x) (hr : r / 4 = f) (hm : cn r = kn (4 * f)) (hn : ∀ q, q < 4 → kn (4 * f + q) ≠ x) (hc1 : cn' r = x) (hc2 : ∀ t, t < 8 → t ≠ r → cn' t = cn t) (ha : 4 * f ≤ a ∧ a ≤ 4 * f + 3) (hlt : ∀ p, 4 * f < p → p ≤ a → kn p < x) (hge : a < 4 * f + 3 → x ≤ kn (a + 1)) (hk : zKs kn kn' f a x) : zNm2 cn' kn' := by
  have hcn := (zNm2_in h hf (by omega : x ≠ 0)).2 hn
  obtain ⟨h1, h2, h3, h4, h5⟩ := h
  have hcx : ∀ t, t < 8 → t / 4 = f → cn t ≠ x := fun t ht ht2 => by
    have := hcn (t % 4) (by omega)
    rwa [show 4 * f + t % 4 = t by omega] at this
  have hkx : ∀ p, p < 8 → p / 4 = f → kn p ≠ x := fun p hp hp2 => by
    have := hn (p % 4) (by omega)
    rwa [show 4 * f + p % 4 = p by omega] at this
  refine ⟨fun p hp => ?_, fun t ht => ?_, fun t t' ht ht' hff he h0 => ?_, fun t ht h0 => ?_, fun p hp h0 => ?_⟩
  · obtain ⟨k1, k2, k3⟩ := hk p hp
    have z1 := h1 p hp
    by_cases c1 : 4 * f ≤ p ∧ p < a
    · have z2 := h1 (p + 1) (by omega)
      obtain ⟨l1, l2, l3⟩ := hk (p + 1) (by omega)
      have w := hlt (p + 1) (by omega) (by omega)
      refine ⟨by rw [k1 c1.1 c1.2]; exact z2.1, fun h9 => ?_⟩
      rw [k1 c1.1 c1.2]
      by_cases c2 : p + 1 < a
      · rw [l1 (by omega) c2]; exact z2.2 (by omega)
      · rw [l2 (by omega)]; exact Or.inr w
    · by_cases c2 : p = a
      · refine ⟨by rw [k2 c2]; omega, fun h9 => ?_⟩
        obtain ⟨l1, l2, l3⟩ := hk (p + 1) (by omega)
        rw [k2 c2, l3 (by omega)]
        have w := hge (by omega)
        have w2 := hkx (p + 1) (by omega) (by omega)
        rw [c2] at w2 ⊢
        omega
      · refine ⟨by rw [k3 (by omega)]; exact z1.1, fun h9 => ?_⟩
        rw [k3 (by omega)]
        obtain ⟨l1, l2, l3⟩ := hk (p + 1) (by omega)
        rw [l3 (by omega)]
        exact z1.2 h9
  · by_cases e : t = r
    · rw [e, hc1]; omega
    · rw [hc2 t ht e]; exact h2 t ht
  · by_cases e : t = r
    · by_cases e' : t' = r
      · omega
      · rw [e, hc1, hc2 t' ht' e'] at he
        exact absurd he.symm (hcx t' ht' (by omega))
    · by_cases e' : t' = r
      · rw [e', hc1, hc2 t ht e] at he
        exact absurd he (hcx t ht (by omega))
      · rw [hc2 t ht e, hc2 t' ht' e'] at he
        rw [hc2 t ht e] at h0
        exact h3 t t' ht ht' hff he h0
  · by_cases e : t = r
    · exact ⟨a, by omega, by omega, by rw [(hk a (by omega)).2.1 rfl, e, hc1]⟩
    · rw [hc2 t ht e] at h0 ⊢
      obtain ⟨p, p1, p2, p3⟩ := h4 t ht h0
      obtain ⟨k1, k2, k3⟩ := hk p p1
      by_cases c1 : 4 * f ≤ p ∧ p ≤ a
      · have c2 : p ≠ 4 * f := fun c2 => e (h3 t r ht (by omega) (by omega) (by rw [hm, ← c2]; exact p3.symm) h0)
        refine ⟨p - 1, by omega, by omega, ?_⟩
        rw [(hk (p - 1) (by omega)).1 (by omega) (by omega), show p - 1 + 1 = p by omega]
        exact p3
      · exact ⟨p, p1, p2, by rw [k3 (by omega)]; exact p3⟩
  · obtain ⟨k1, k2, k3⟩ := hk p hp
    by_cases c1 : 4 * f ≤ p ∧ p < a
    · rw [k1 c1.1 c1.2] at h0 ⊢
      obtain ⟨t, t1, t2, t3⟩ := h5 (p + 1) (by omega) h0
      have e : t ≠ r := fun e => by
        have q := zSo_u h1 (p := p + 1) (p' := 4 * f) (by omega) (by omega) (by omega) (by rw [← t3, e]; exact hm) h0
        omega
      exact ⟨t, t1, by omega, by rw [hc2 t t1 e]; exact t3⟩
    · by_cases c2 : p = a
      · exact ⟨r, by omega, by omega, by rw [k2 c2]; exact hc1⟩
      · rw [k3 (by omega)] at h0 ⊢
        obtain ⟨t, t1, t2, t3⟩ := h5 p hp h0
        have e : t ≠ r := fun e => by
          have q := zSo_u h1 (p := p) (p' := 4 * f) hp (by omega) (by omega) (by rw [← t3, e]; exact hm) h0
          omega
        exact ⟨t, t1, t2, by rw [hc2 t t1 e]; exact t3⟩
