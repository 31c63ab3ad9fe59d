/-! Both receivers side by side: files held for each other. -/
def zKt (a : wm) (t i : Nat) : Int := 16 * (2 * a.1 26 t 7 + ((t / 4 : Nat) : Int)) + 2 * (i : Int)
def zkaC (a m : wm) (k : Int) : Bool := decide (∀ t : Fin 8, ∀ i : Fin 7, ¬ (m.1 29 t i = 1 ∧ a.1 29 t i ≠ 1 ∧ zKt a t i ≤ k ∧ k ≤ zKt a t i + 1))
theorem zkaC_i {a m : wm} {k : Int} : zkaC a m k = true ↔ ∀ t : Fin 8, ∀ i : Fin 7, ¬ (m.1 29 t i = 1 ∧ a.1 29 t i ≠ 1 ∧ zKt a t i ≤ k ∧ k ≤ zKt a t i + 1) := by
  unfold zkaC
  exact decide_eq_true_iff
def zIe (a m : wm) (t i : Nat) : Prop := m.1 29 t i = a.1 29 t i ∧ m.1 28 t (2 * i) = a.1 28 t (2 * i) ∧ m.1 28 t (2 * i + 1) = a.1 28 t (2 * i + 1) ∧ m.1 1 (101 + 7 * t + i) 1 = a.1 1 (101 + 7 * t + i) 1 ∧ ∀ j, m.1 2 (101 + 7 * t + i) j = a.1 2 (101 + 7 * t + i) j
def zIn9 (x : Nat) (a m : wm) (t i : Nat) : Prop := a.1 29 t i ≠ 1 ∧ m.1 29 t i = 1 ∧ t / 4 = x ∧ 1 ≤ i ∧ (i : Int) ≤ a.1 26 t 9 ∧ m.1 1 (101 + 7 * t + i) 1 = a.1 32 t (i - 1) ∧ m.1 28 t (2 * i) = 1 ∧ m.1 28 t (2 * i + 1) = (if 64 < a.1 32 t (i - 1) then 1 else 0)
def zHsm (x : Nat) (a m : wm) : Prop := (∀ k t j, k = 26 ∨ (30 ≤ k ∧ k ≤ 33) → m.1 k t j = a.1 k t j ∧ m.2.1 k t j = a.2.1 k t j) ∧ (∀ t i, t < 8 → i < 7 → zIe a m t i ∨ zIn9 x a m t i) ∧ zLC m = (zLC a).filter (fun r => zkaC a m r.1)
theorem zHsm_0 {x : Nat} {a : wm} : zHsm x a a := by
  refine ⟨fun _ _ _ _ => ⟨rfl, rfl⟩, fun t i _ _ => Or.inl ⟨rfl, rfl, rfl, rfl, fun _ => rfl⟩, ?_⟩
  exact (List.filter_eq_self.2 fun r _ => zkaC_i.2 fun t i z => z.2.1 z.1).symm
/-- the size of what is held -/
def zHsz (a m : wm) : Prop := ∀ t i : Nat, t < 8 → i < 7 → 1 ≤ i → (i : Int) ≤ a.1 26 t 9 → m.1 29 t i = 1 → m.1 1 (101 + 7 * t + i) 1 = a.1 32 t (i - 1)
theorem zHsm_z {x : Nat} {a m : wm} (h : zHsm x a m) (h0 : zHsz a a) : zHsz a m := fun t i ht hi h1 h2 hh => by
  rcases h.2.1 t i ht hi with z | z
  · rw [z.2.2.2.1]; exact h0 t i ht hi h1 h2 (by rw [← z.1]; exact hh)
  · exact z.2.2.2.2.2.1
theorem zHsm_s {x y z : Int} {a m m1 : wm} (hx : 0 ≤ x ∧ x ≤ 1) (h : zHsm x.toNat a m) (h0 : zHsz a a) (hy : 0 ≤ y ∧ y ≤ 3) (hz : 1 ≤ z ∧ z ≤ 6) (hf : z ≤ m.1 26 (4 * x.toNat + y.toNat) 9) (hs : zHsx m m1 x y z) (h6 : ∀ t, t < 8 → a.1 26 t 9 ≤ 6) : zHsm x.toNat a m1 := by
  have hsz := zHsm_z h h0
  obtain ⟨s1, s2, s3, w, q, w1, w2, w3, w4, w5, w6⟩ := hs
  obtain ⟨a1, a2, a3⟩ := h
  have e26 : ∀ t j, m.1 26 t j = a.1 26 t j := fun t j => (a1 26 t j (Or.inl rfl)).1
  have e32 : ∀ t j, m.1 32 t j = a.1 32 t j := fun t j => (a1 32 t j (Or.inr (by omega))).1
  rw [e26] at w4 hf s3
  obtain ⟨u1, u2, u3⟩ := w5
  rw [e32, e32] at u2
  have hw6 := h6 (4 * x.toNat + w) (by omega)
  have hS : m.1 1 (101 + 7 * (4 * x.toNat + w) + q) 1 = a.1 32 (4 * x.toNat + y.toNat) (z.toNat - 1) := by
    rw [hsz _ q (by omega) (by omega) w3 w4 u1]; exact u2
  rw [hS] at w6
  obtain ⟨g1, g2, g3, g4⟩ := w6
  have hold : m.1 29 (4 * x.toNat + y.toNat) z.toNat = a.1 29 (4 * x.toNat + y.toNat) z.toNat := by
    rcases a2 (4 * x.toNat + y.toNat) z.toNat (by omega) (by omega) with e | e
    · exact e.1
    · rw [e.2.1] at s1; omega
  refine ⟨fun k t j hk => ?_, fun t i ht hi => ?_, ?_⟩
  · have f := s2 k t j (by unfold zEh; omega)
    rw [f.1, f.2.1]; exact a1 k t j hk
  · by_cases e : t = 4 * x.toNat + y.toNat ∧ i = z.toNat
    · rw [e.1, e.2]
      refine Or.inr ⟨by rw [← hold, s1]; omega, g2, by omega, by omega, by omega, g1, g3, g4⟩
    · have f29 := (s2 29 t i (by unfold zEh; omega)).1
      have f280 := (s2 28 t (2 * i) (by unfold zEh; omega)).1
      have f281 := (s2 28 t (2 * i + 1) (by unfold zEh; omega)).1
      have f1 := (s2 1 (101 + 7 * t + i) 1 (by unfold zEh; omega)).1
      rcases a2 t i ht hi with z9 | z9
      · exact Or.inl ⟨f29.trans z9.1, f280.trans z9.2.1, f281.trans z9.2.2.1, f1.trans z9.2.2.2.1, fun j => ((s2 2 (101 + 7 * t + i) j (by unfold zEh; omega)).1).trans (z9.2.2.2.2 j)⟩
      · obtain ⟨y1, y2, y3, y4, y5, y6, y7, y8⟩ := z9
        exact Or.inr ⟨y1, f29.trans y2, y3, y4, y5, f1.trans y6, f280.trans y7, f281.trans y8⟩
  · rw [s3, a3, List.filter_filter]
    refine List.filter_congr fun r _ => ?_
    have eK : zKt a (4 * x.toNat + y.toNat) z.toNat = 16 * (2 * a.1 26 (4 * x.toNat + y.toNat) 7 + x) + 2 * z := by
      unfold zKt
      rw [show (((4 * x.toNat + y.toNat) / 4 : Nat) : Int) = x by omega, show ((z.toNat : Nat) : Int) = z by omega]
    apply Bool.eq_iff_iff.2
    rw [Bool.and_eq_true]
    unfold zkc9
    rw [decide_eq_true_iff, zkaC_i, zkaC_i]
    constructor
    · rintro ⟨c1, c2⟩ t i ⟨d1, d2, d3, d4⟩
      by_cases e : t.1 = 4 * x.toNat + y.toNat ∧ i.1 = z.toNat
      · rw [e.1, e.2, eK] at d3 d4; omega
      · have f29 := (s2 29 t.1 i.1 (by unfold zEh; omega)).1
        rw [f29] at d1
        exact c2 t i ⟨d1, d2, d3, d4⟩
    · intro c
      refine ⟨?_, fun t i d => ?_⟩
      · apply Classical.byContradiction
        intro hn
        exact c ⟨4 * x.toNat + y.toNat, by omega⟩ ⟨z.toNat, by omega⟩ ⟨g2, by show a.1 29 (4 * x.toNat + y.toNat) z.toNat ≠ 1; rw [← hold, s1]; omega, by show zKt a (4 * x.toNat + y.toNat) z.toNat ≤ r.1; rw [eK]; omega, by show r.1 ≤ zKt a (4 * x.toNat + y.toNat) z.toNat + 1; rw [eK]; omega⟩
      · obtain ⟨d1, d2, d3, d4⟩ := d
        have e : ¬ (t.1 = 4 * x.toNat + y.toNat ∧ i.1 = z.toNat) := fun e => by rw [e.1, e.2, s1] at d1; omega
        have f29 := (s2 29 t.1 i.1 (by unfold zEh; omega)).1
        exact c t i ⟨by rw [f29]; exact d1, d2, d3, d4⟩
/-- the reference's -/
def zJe (b m : wm) (q : Nat) : Prop := m.1 57 0 q = b.1 57 0 q ∧ m.1 54 0 q = b.1 54 0 q ∧ m.1 55 0 (2 * q) = b.1 55 0 (2 * q) ∧ m.1 55 0 (2 * q + 1) = b.1 55 0 (2 * q + 1) ∧ ∀ j, j < 104 → m.1 56 0 (104 * q + j) = b.1 56 0 (104 * q + j)
def zJn (f : Nat) (T : Nat → Nat → Int) (b m : wm) (q : Nat) : Prop := b.1 57 0 q ≠ 1 ∧ m.1 57 0 q = 1 ∧ q / 28 = f ∧ 1 ≤ q % 7 ∧ b.1 51 0 (q / 7) = 1 ∧ ((q % 7 : Nat) : Int) ≤ b.1 52 0 (q / 7) ∧ m.1 54 0 q = T (q / 7) (q % 7) ∧ m.1 55 0 (2 * q) = 1 ∧ m.1 55 0 (2 * q + 1) = (if 64 < T (q / 7) (q % 7) then 1 else 0) ∧ 0 ≤ T (q / 7) (q % 7)
def zkbR (b m : wm) (q : Int) : Bool := decide (¬ (m.1 57 0 q.toNat = 1 ∧ b.1 57 0 q.toNat ≠ 1))
theorem zkbR_i {b m : wm} {q : Int} : zkbR b m q = true ↔ ¬ (m.1 57 0 q.toNat = 1 ∧ b.1 57 0 q.toNat ≠ 1) := by
  unfold zkbR
  exact decide_eq_true_iff
def zBsm (f : Nat) (T : Nat → Nat → Int) (b m : wm) : Prop := (∀ k j, k = 50 ∨ k = 51 ∨ k = 52 → m.1 k 0 j = b.1 k 0 j) ∧ (∀ q, q < 56 → zJe b m q ∨ zJn f T b m q) ∧ zLR m = (zLR b).filter (fun r => zkbR b m r.1)
theorem zBsm_0 {f : Nat} {T : Nat → Nat → Int} {b : wm} : zBsm f T b b := by
  refine ⟨fun _ _ _ => rfl, fun q _ => Or.inl ⟨rfl, rfl, rfl, rfl, fun _ _ => rfl⟩, ?_⟩
  exact (List.filter_eq_self.2 fun r _ => zkbR_i.2 fun z => z.2 z.1).symm
theorem zBsm_s {f : Nat} {T : Nat → Nat → Int} {b m m1 : wm} {p i : Int} (hr : ∀ r, r ∈ zLR b → 0 ≤ r.1 ∧ r.1 < 56) (h : zBsm f T b m) (hf : f < 2) (hp : 4 * (f : Int) ≤ p ∧ p < 4 * (f : Int) + 4) (hi : 1 ≤ i ∧ i ≤ 6) (hc : i ≤ m.1 52 0 p.toNat) (hg : m.1 51 0 p.toNat = 1) (hT : zSt m p i = T p.toNat i.toNat) (hT0 : 0 ≤ T p.toNat i.toNat) (hs : zBo m m1 p i) : zBsm f T b m1 := by
  obtain ⟨s1, s2, s3, s4, g, k, gk, ⟨al1, al2, al3⟩, s5, s6, s7⟩ := hs
  obtain ⟨a1, a2, a3⟩ := h
  rw [al2, hT] at s5
  rw [al2, hT] at s6
  rw [a1 52 _ (by omega)] at hc
  rw [a1 51 _ (by omega)] at hg
  rw [show (7 * p + i).toNat = 7 * p.toNat + i.toNat by omega] at s1
  have t57 : ∀ j : Nat, m1.1 57 0 j = if j = 7 * p.toNat + i.toNat then 1 else m.1 57 0 j := fun j => by
    have := s3 (j : Int) (by omega)
    rw [Int.toNat_natCast] at this
    rw [this]
    by_cases e : j = 7 * p.toNat + i.toNat
    · rw [if_pos e, if_pos (by omega)]
    · rw [if_neg e, if_neg (by omega)]
  have t54 : ∀ j : Nat, m1.1 54 0 j = if j = 7 * p.toNat + i.toNat then T p.toNat i.toNat else m.1 54 0 j := fun j => by
    have := s5 (j : Int) (by omega)
    rw [Int.toNat_natCast] at this
    rw [this]
    by_cases e : j = 7 * p.toNat + i.toNat
    · rw [if_pos e, if_pos (by omega)]
    · rw [if_neg e, if_neg (by omega)]
  have t55 : ∀ j : Nat, m1.1 55 0 j = if j = 2 * (7 * p.toNat + i.toNat) + 1 then (if 64 < T p.toNat i.toNat then 1 else 0) else if j = 2 * (7 * p.toNat + i.toNat) then 1 else m.1 55 0 j := fun j => by
    have := s6 (j : Int) (by omega)
    rw [Int.toNat_natCast] at this
    rw [this]
    by_cases e : j = 2 * (7 * p.toNat + i.toNat) + 1
    · rw [if_pos e, if_pos (by omega)]
    · rw [if_neg e, if_neg (by omega)]
      by_cases e2 : j = 2 * (7 * p.toNat + i.toNat)
      · rw [if_pos e2, if_pos (by omega)]
      · rw [if_neg e2, if_neg (by omega)]
  have hold : m.1 57 0 (7 * p.toNat + i.toNat) = b.1 57 0 (7 * p.toNat + i.toNat) := by
    rcases a2 (7 * p.toNat + i.toNat) (by omega) with e | e
    · exact e.1
    · exact absurd e.2.1 s1
  refine ⟨fun k j hk => by rw [(s2 k 0 j (by unfold zeB; omega)).1]; exact a1 k j hk, fun q hq => ?_, ?_⟩
  · by_cases e : q = 7 * p.toNat + i.toNat
    · have e1 : q / 7 = p.toNat := by omega
      have e2 : q % 7 = i.toNat := by omega
      refine Or.inr ⟨by rw [e, ← hold]; exact s1, by rw [t57, if_pos e], by omega, by omega, by rw [e1]; exact hg, by rw [e1, e2]; omega, by rw [t54, if_pos e, e1, e2], by rw [t55, if_neg (by omega), if_pos (by omega)], by rw [t55, if_pos (by omega), e1, e2], by rw [e1, e2]; exact hT0⟩
    · rcases a2 q hq with z | z
      · refine Or.inl ⟨by rw [t57, if_neg e]; exact z.1, by rw [t54, if_neg e]; exact z.2.1, by rw [t55, if_neg (by omega), if_neg (by omega)]; exact z.2.2.1, by rw [t55, if_neg (by omega), if_neg (by omega)]; exact z.2.2.2.1, fun j hj => ?_⟩
        have := s7 ((104 * q + j : Nat) : Int) (by omega) (by omega)
        rw [Int.toNat_natCast] at this
        rw [this]; exact z.2.2.2.2 j hj
      · obtain ⟨y1, y2, y3, y4, y5, y6, y7, y8, y9, y0⟩ := z
        exact Or.inr ⟨y1, by rw [t57, if_neg e]; exact y2, y3, y4, y5, y6, by rw [t54, if_neg e]; exact y7, by rw [t55, if_neg (by omega), if_neg (by omega)]; exact y8, by rw [t55, if_neg (by omega), if_neg (by omega)]; exact y9, y0⟩
  · rw [s4, a3, List.filter_filter]
    refine List.filter_congr fun r hr0 => ?_
    obtain ⟨r1, r2⟩ := hr r hr0
    apply Bool.eq_iff_iff.2
    rw [Bool.and_eq_true]
    unfold zkbR zkq
    rw [decide_eq_true_iff, decide_eq_true_iff, decide_eq_true_iff, t57]
    constructor
    · rintro ⟨c1, c2⟩ ⟨d1, d2⟩
      by_cases e : r.1.toNat = 7 * p.toNat + i.toNat
      · exact c1 ⟨by omega, by omega, Or.inl (by omega)⟩
      · rw [if_neg e] at d1; exact c2 ⟨d1, d2⟩
    · intro c
      refine ⟨fun d => c ?_, fun d => c ?_⟩
      · have e : r.1.toNat = 7 * p.toNat + i.toNat := by omega
        rw [if_pos e]
        exact ⟨rfl, by rw [e, ← hold]; exact s1⟩
      · by_cases e : r.1.toNat = 7 * p.toNat + i.toNat
        · rw [if_pos e]; exact ⟨rfl, d.2⟩
        · rw [if_neg e]; exact d
