/-! The reference's rows: sums by sets. -/
def zsf (P : Nat → Bool) (R : Nat → zRo) (s : Nat) : Nat → zRo
  | 0 => (0, 0)
  | u + 1 => if P u = true ∧ s.testBit (zct P u) = true then zxo (zsf P R s u) (R u) else zsf P R s u
section ZSF
variable {P : Nat → Bool} {R : Nat → zRo}
theorem zsf_a (s : Nat) : ∀ u, zsq P R u (zsf P R s u) := by
  intro u
  induction u with
  | zero => exact rfl
  | succ u ih =>
    show zsq P R (u + 1) (if P u = true ∧ s.testBit (zct P u) = true then zxo (zsf P R s u) (R u) else zsf P R s u)
    by_cases h : P u = true ∧ s.testBit (zct P u) = true
    · rw [if_pos h]
      refine Or.inr ⟨h.1, ?_⟩
      rw [zxo_k]
      exact ih
    · rw [if_neg h]
      exact Or.inl ih
theorem zsf_c {s s' : Nat} : ∀ {u : Nat}, (∀ k, k < zct P u → s.testBit k = s'.testBit k) → zsf P R s u = zsf P R s' u := by
  intro u
  induction u with
  | zero => intro _; rfl
  | succ u ih =>
    intro h
    have h1 : zct P (u + 1) = zct P u + (if P u = true then 1 else 0) := rfl
    have h2 := ih (fun k hk => h k (by omega))
    show (if P u = true ∧ s.testBit (zct P u) = true then zxo (zsf P R s u) (R u) else zsf P R s u) = (if P u = true ∧ s'.testBit (zct P u) = true then zxo (zsf P R s' u) (R u) else zsf P R s' u)
    rw [h2]
    by_cases hP : P u = true
    · rw [zct_s hP] at h
      rw [h (zct P u) (Nat.lt_succ_self _)]
    · rw [if_neg (fun z => hP z.1), if_neg (fun z => hP z.1)]
theorem zsf_b : ∀ {u : Nat} {p : zRo}, zsq P R u p → ∃ s, s < 2 ^ zct P u ∧ zsf P R s u = p := by
  intro u
  induction u with
  | zero => intro p h; exact ⟨0, Nat.two_pow_pos _, h.symm⟩
  | succ u ih =>
    intro p h
    by_cases hP : P u = true
    · rw [zct_s hP]
      rcases h with h | ⟨_, h⟩
      · obtain ⟨s, h1, h2⟩ := ih h
        refine ⟨s, Nat.lt_trans h1 (Nat.pow_lt_pow_right (by decide) (Nat.lt_succ_self _)), ?_⟩
        show (if P u = true ∧ s.testBit (zct P u) = true then zxo (zsf P R s u) (R u) else zsf P R s u) = p
        rw [if_neg (fun z => by rw [Nat.testBit_lt_two_pow h1] at z; cases z.2)]
        exact h2
      · obtain ⟨s, h1, h2⟩ := ih h
        refine ⟨2 ^ zct P u + s, by rw [Nat.pow_succ]; omega, ?_⟩
        show (if P u = true ∧ (2 ^ zct P u + s).testBit (zct P u) = true then zxo (zsf P R (2 ^ zct P u + s) u) (R u) else zsf P R (2 ^ zct P u + s) u) = p
        rw [if_pos ⟨hP, by rw [Nat.testBit_two_pow_add_eq, Nat.testBit_lt_two_pow h1]; rfl⟩, zsf_c (s' := s) (fun k hk => Nat.testBit_two_pow_add_gt hk s), h2]
        exact zxo_k _ _
    · have hP2 : P u = false := by cases h : P u with
        | false => rfl
        | true => exact absurd h hP
      rw [zct_n hP2]
      obtain ⟨s, h1, h2⟩ := ih ((zsq_n hP2).1 h)
      refine ⟨s, h1, ?_⟩
      show (if P u = true ∧ s.testBit (zct P u) = true then zxo (zsf P R s u) (R u) else zsf P R s u) = p
      rw [if_neg (fun z => hP z.1)]
      exact h2
end ZSF
/-- a bit of a set -/
theorem zbit {S k : Int} (h0 : 0 ≤ S) (h1 : S ≤ 2147483647) (hk : 0 ≤ k ∧ k ≤ 30) : wand (wshr S k) 1 = 1 ↔ S.toNat.testBit k.toNat = true := by
  have e1 : wshr S k = S / ((2 ^ k.toNat : Nat) : Int) := by
    have := wshr_k (X := S) (k := k.toNat) (by omega) (by omega) h1
    rw [show ((k.toNat : Nat) : Int) = k by omega] at this
    exact this
  rw [wand_m1, e1, Nat.testBit_eq_decide_div_mod_eq, decide_eq_true_iff]
  have e2 : S / ((2 ^ k.toNat : Nat) : Int) = ((S.toNat / 2 ^ k.toNat : Nat) : Int) := by
    rw [Int.natCast_ediv, show ((S.toNat : Nat) : Int) = S by omega]
  rw [e2]
  omega
theorem wshl_1 {k : Int} (hk : 0 ≤ k ∧ k ≤ 30) : wshl 1 k = ((2 ^ k.toNat : Nat) : Int) := by
  have hp : 2 ^ k.toNat ≤ 2 ^ 30 := Nat.pow_le_pow_right (by decide) (by omega)
  have := wshl_l (X := 1) (k := k.toNat) (by omega) (by decide) (by omega)
  rw [show ((k.toNat : Nat) : Int) = k by omega, Int.one_mul] at this
  exact this
/-- the reference's rows are small -/
def zRb (m : wm) : Prop := ∀ j, j < zRu m → 0 ≤ m.1 60 0 j ∧ m.1 60 0 j ≤ 255
def zRk (m : wm) (x y b : Int) : Nat → Bool := fun j => decide (¬ (x ≤ m.1 58 0 j ∧ m.1 58 0 j ≤ y ∧ (b < 0 ∨ m.1 59 0 j = b)))
def zRowR (m m' : wm) (j j' : Nat) : Prop := m.1 58 0 j = m'.1 58 0 j' ∧ m.1 59 0 j = m'.1 59 0 j' ∧ m.1 60 0 j = m'.1 60 0 j' ∧ m.2.1 61 0 j = m'.2.1 61 0 j'
theorem zRowR_t {a b c : wm} {i j k : Nat} (h1 : zRowR a b i j) (h2 : zRowR b c j k) : zRowR a c i k := ⟨h1.1.trans h2.1, h1.2.1.trans h2.2.1, h1.2.2.1.trans h2.2.2.1, h1.2.2.2.trans h2.2.2.2⟩
def zRdu (m0 m : wm) (x y b w : Int) : Prop := (∀ i : Nat, (i : Int) < w → zRk m0 x y b i = true → zRowR m m0 (zct (zRk m0 x y b) i) i) ∧ ∀ j : Nat, w ≤ (j : Int) → zRowR m m0 j j
def zRdr (m0 m1 : wm) (x y b : Int) : Prop := m1.1 34 0 30 = ((zct (zRk m0 x y b) (zRu m0) : Nat) : Int) ∧ ∀ i : Nat, i < zRu m0 → zRk m0 x y b i = true → zRowR m1 m0 (zct (zRk m0 x y b) i) i
theorem zRdu_0 {m : wm} {x y b : Int} : zRdu m m x y b 0 := ⟨fun i hi => absurd hi (by omega), fun j _ => ⟨rfl, rfl, rfl, rfl⟩⟩
theorem zRdu_n {m0 m : wm} {x y b w : Int} (h : zRdu m0 m x y b w) (hw : 0 ≤ w) (hZ : zRk m0 x y b w.toNat = false) : zRdu m0 m x y b (w + 1) :=
  ⟨fun i hi hZi => by
    by_cases hiw : i = w.toNat
    · subst hiw; rw [hZ] at hZi; cases hZi
    · exact h.1 i (by omega) hZi, fun j hj => h.2 j (by omega)⟩
theorem zRdu_s {m0 m ma mb mc md : wm} {x y b z w : Int} (h : zRdu m0 m x y b w) (hw : 0 ≤ w) (hz : z = ((zct (zRk m0 x y b) w.toNat : Nat) : Int)) (hZ : zRk m0 x y b w.toNat = true) (hA : ma = wuI m 58 0 z.toNat (m.1 58 0 w.toNat)) (hB : mb = wuI ma 59 0 z.toNat (ma.1 59 0 w.toNat)) (hC : mc = wuI mb 60 0 z.toNat (mb.1 60 0 w.toNat)) (hD : md = wuL mc 61 0 z.toNat (mc.2.1 61 0 w.toNat)) : zRdu m0 md x y b (w + 1) := by
  have zz : z.toNat = zct (zRk m0 x y b) w.toNat := by omega
  have zl : zct (zRk m0 x y b) w.toNat ≤ w.toNat := zct_le _
  have kne : ∀ j, j ≠ z.toNat → zRowR md m j j := fun j hj => by
    refine ⟨?_, ?_, ?_, ?_⟩
    · rw [hD]; show mc.1 58 0 j = _; rw [hC]; show mb.1 58 0 j = _; rw [hB]; show ma.1 58 0 j = _; rw [hA]; exact wuI_nj (by omega)
    · rw [hD]; show mc.1 59 0 j = _; rw [hC]; show mb.1 59 0 j = _; rw [hB, wuI_nj (by omega), hA]; rfl
    · rw [hD]; show mc.1 60 0 j = _; rw [hC, wuI_nj (by omega), hB]; show ma.1 60 0 j = _; rw [hA]; rfl
    · rw [hD]
      show (if 61 = 61 ∧ 0 = 0 ∧ j = z.toNat then _ else mc.2.1 61 0 j) = _
      rw [if_neg (by omega), hC]; show mb.2.1 61 0 j = _; rw [hB]; show ma.2.1 61 0 j = _; rw [hA]; rfl
  have keq : zRowR md m z.toNat w.toNat := by
    refine ⟨?_, ?_, ?_, ?_⟩
    · rw [hD]; show mc.1 58 0 z.toNat = _; rw [hC]; show mb.1 58 0 z.toNat = _; rw [hB]; show ma.1 58 0 z.toNat = _; rw [hA]; exact wuI_self
    · rw [hD]; show mc.1 59 0 z.toNat = _; rw [hC]; show mb.1 59 0 z.toNat = _; rw [hB, wuI_self, hA]; rfl
    · rw [hD]; show mc.1 60 0 z.toNat = _; rw [hC, wuI_self, hB]; show ma.1 60 0 w.toNat = _; rw [hA]; rfl
    · rw [hD]
      show (if 61 = 61 ∧ 0 = 0 ∧ z.toNat = z.toNat then mc.2.1 61 0 w.toNat else _) = _
      rw [if_pos ⟨rfl, rfl, rfl⟩, hC]; show mb.2.1 61 0 w.toNat = _; rw [hB]; show ma.2.1 61 0 w.toNat = _; rw [hA]; rfl
  refine ⟨fun i hi hZi => ?_, fun j hj => ?_⟩
  · by_cases hiw : i = w.toNat
    · subst hiw
      rw [← zz]
      exact zRowR_t keq (h.2 _ (by omega))
    · have hlt : zct (zRk m0 x y b) i < zct (zRk m0 x y b) w.toNat := zct_lt (by omega) hZi
      exact zRowR_t (kne _ (by omega)) (h.1 i (by omega) hZi)
  · exact zRowR_t (kne _ (by omega)) (h.2 j (by omega))
theorem zsf_1 {P : Nat → Bool} {R : Nat → zRo} {s u : Nat} (hP : P u = true) (hb : s.testBit (zct P u) = true) : zsf P R s (u + 1) = zxo (zsf P R s u) (R u) := by
  show (if P u = true ∧ s.testBit (zct P u) = true then zxo (zsf P R s u) (R u) else zsf P R s u) = _
  rw [if_pos ⟨hP, hb⟩]
theorem zsf_n {P : Nat → Bool} {R : Nat → zRo} {s u : Nat} (h : ¬ (P u = true ∧ s.testBit (zct P u) = true)) : zsf P R s (u + 1) = zsf P R s u := by
  show (if P u = true ∧ s.testBit (zct P u) = true then zxo (zsf P R s u) (R u) else zsf P R s u) = _
  rw [if_neg h]
/-- a sum on the way: so many rows of the block before, so much of their masks -/
def zSu1 (m : wm) (q b S i k w : Int) : Prop := k = ((zct (zRp m q b) i.toNat : Nat) : Int) ∧ 0 ≤ w ∧ w ≤ 255 ∧ w.toNat = (zsf (zRp m q b) (zRw m) S.toNat i.toNat).1
theorem zSu1_0 {m : wm} {q b S : Int} : zSu1 m q b S 0 0 0 := ⟨rfl, by decide, by decide, rfl⟩
theorem zSu1_n {m : wm} {q b S i k w : Int} (h : zSu1 m q b S i k w) (hi : 0 ≤ i) (hn : ¬ (m.1 58 0 i.toNat = q ∧ m.1 59 0 i.toNat = b)) : zSu1 m q b S (i + 1) k w := by
  have hP : zRp m q b i.toNat = false := decide_eq_false hn
  obtain ⟨h1, h2, h3, h4⟩ := h
  refine ⟨?_, h2, h3, ?_⟩
  · rw [show (i + 1).toNat = i.toNat + 1 by omega, zct_n hP]; exact h1
  · rw [show (i + 1).toNat = i.toNat + 1 by omega, zsf_n (fun z => by rw [hP] at z; cases z.1)]; exact h4
theorem zSu1_s {m : wm} {q b S i k w : Int} (h : zSu1 m q b S i k w) (hb : zRb m) (hi : 0 ≤ i ∧ i < m.1 34 0 30) (hk : k ≤ 30) (hS : 0 ≤ S ∧ S ≤ 2147483647) (hn : m.1 58 0 i.toNat = q ∧ m.1 59 0 i.toNat = b) (ht : wand (wshr S k) 1 = 1) : zSu1 m q b S (i + 1) (k + 1) (wxor w (m.1 60 0 i.toNat)) := by
  have hP : zRp m q b i.toNat = true := decide_eq_true hn
  obtain ⟨h1, h2, h3, h4⟩ := h
  have hM := hb i.toNat (by unfold zRu; omega)
  have hx := wxor_255 ⟨h2, h3⟩ hM
  have hbit := (zbit hS.1 hS.2 ⟨by omega, hk⟩).1 ht
  rw [show k.toNat = zct (zRp m q b) i.toNat by omega] at hbit
  refine ⟨?_, hx.1, hx.2, ?_⟩
  · rw [show (i + 1).toNat = i.toNat + 1 by omega, zct_s hP]; omega
  · rw [show (i + 1).toNat = i.toNat + 1 by omega, zsf_1 hP hbit, wxor_n ⟨h2, h3⟩ hM, h4]
    rfl
theorem zSu1_z {m : wm} {q b S i k w : Int} (h : zSu1 m q b S i k w) (hi : 0 ≤ i) (hk : k ≤ 30) (hS : 0 ≤ S ∧ S ≤ 2147483647) (hn : m.1 58 0 i.toNat = q ∧ m.1 59 0 i.toNat = b) (ht : wand (wshr S k) 1 ≠ 1) : zSu1 m q b S (i + 1) (k + 1) w := by
  have hP : zRp m q b i.toNat = true := decide_eq_true hn
  obtain ⟨h1, h2, h3, h4⟩ := h
  refine ⟨?_, h2, h3, ?_⟩
  · rw [show (i + 1).toNat = i.toNat + 1 by omega, zct_s hP]; omega
  · rw [show (i + 1).toNat = i.toNat + 1 by omega, zsf_n (fun z => ht ((zbit hS.1 hS.2 ⟨by omega, hk⟩).2 (by rw [show k.toNat = zct (zRp m q b) i.toNat by omega]; exact z.2)))]
    exact h4
def zSu2 (m : wm) (q b S i k : Int) (v : Int64) : Prop := k = ((zct (zRp m q b) i.toNat : Nat) : Int) ∧ v = (zsf (zRp m q b) (zRw m) S.toNat i.toNat).2
theorem zSu2_0 {m : wm} {q b S : Int} : zSu2 m q b S 0 0 (Int64.ofNat 0) := ⟨rfl, rfl⟩
theorem zSu2_n {m : wm} {q b S i k : Int} {v : Int64} (h : zSu2 m q b S i k v) (hi : 0 ≤ i) (hn : ¬ (m.1 58 0 i.toNat = q ∧ m.1 59 0 i.toNat = b)) : zSu2 m q b S (i + 1) k v := by
  have hP : zRp m q b i.toNat = false := decide_eq_false hn
  refine ⟨?_, ?_⟩
  · rw [show (i + 1).toNat = i.toNat + 1 by omega, zct_n hP]; exact h.1
  · rw [show (i + 1).toNat = i.toNat + 1 by omega, zsf_n (fun z => by rw [hP] at z; cases z.1)]; exact h.2
theorem zSu2_s {m : wm} {q b S i k : Int} {v : Int64} (h : zSu2 m q b S i k v) (hi : 0 ≤ i) (hk : k ≤ 30) (hS : 0 ≤ S ∧ S ≤ 2147483647) (hn : m.1 58 0 i.toNat = q ∧ m.1 59 0 i.toNat = b) (ht : wand (wshr S k) 1 = 1) : zSu2 m q b S (i + 1) (k + 1) (v ^^^ m.2.1 61 0 i.toNat) := by
  have hP : zRp m q b i.toNat = true := decide_eq_true hn
  have h1 := h.1
  have hbit := (zbit hS.1 hS.2 ⟨by omega, hk⟩).1 ht
  rw [show k.toNat = zct (zRp m q b) i.toNat by omega] at hbit
  refine ⟨?_, ?_⟩
  · rw [show (i + 1).toNat = i.toNat + 1 by omega, zct_s hP]; omega
  · rw [show (i + 1).toNat = i.toNat + 1 by omega, zsf_1 hP hbit, h.2]
    rfl
theorem zSu2_z {m : wm} {q b S i k : Int} {v : Int64} (h : zSu2 m q b S i k v) (hi : 0 ≤ i) (hk : k ≤ 30) (hS : 0 ≤ S ∧ S ≤ 2147483647) (hn : m.1 58 0 i.toNat = q ∧ m.1 59 0 i.toNat = b) (ht : wand (wshr S k) 1 ≠ 1) : zSu2 m q b S (i + 1) (k + 1) v := by
  have hP : zRp m q b i.toNat = true := decide_eq_true hn
  have h1 := h.1
  refine ⟨?_, ?_⟩
  · rw [show (i + 1).toNat = i.toNat + 1 by omega, zct_s hP]; omega
  · rw [show (i + 1).toNat = i.toNat + 1 by omega, zsf_n (fun z => ht ((zbit hS.1 hS.2 ⟨by omega, hk⟩).2 (by rw [show k.toNat = zct (zRp m q b) i.toNat by omega]; exact z.2)))]
    exact h.2
/-- no set gives it: it is no sum -/
theorem zSu_no {m : wm} {q b x : Int} {y : Int} (hy : y = ((zct (zRp m q b) (zRu m) : Nat) : Int)) (hy2 : y ≤ 30) {u : Int} (hu : wshl 1 y ≤ u) (h : ∀ s : Nat, (s : Int) < u → (zsf (zRp m q b) (zRw m) s (zRu m)).1 ≠ x.toNat) : ¬ ∃ v, zsq (zRp m q b) (zRw m) (zRu m) (x.toNat, v) := by
  rintro ⟨v, hv⟩
  obtain ⟨s, h1, h2⟩ := zsf_b hv
  rw [wshl_1 ⟨by omega, hy2⟩, show y.toNat = zct (zRp m q b) (zRu m) by omega] at hu
  exact h s (by omega) (by rw [h2])
/-- sizes taken away where nothing is left -/
def zHas (m : wm) (j : Nat) : Prop := m.1 55 0 (2 * j) = 1 ∨ m.1 55 0 (2 * j + 1) = 1 ∨ ∃ r, r < zRu m ∧ m.1 58 0 r = (j : Int)
def zUf (m0 m : wm) (w : Int) : Prop := ∀ j : Nat, j < 56 → ((j : Int) < w → (zHas m0 j → m.1 54 0 j = m0.1 54 0 j) ∧ (¬ zHas m0 j → m.1 54 0 j = -1)) ∧ (w ≤ (j : Int) → m.1 54 0 j = m0.1 54 0 j)
theorem zUf_0 {m : wm} : zUf m m 0 := fun j _ => ⟨fun h => absurd h (by omega), fun _ => rfl⟩
theorem zUf_s {m0 m m1 : wm} {w X : Int} (h : zUf m0 m w) (hw : 0 ≤ w) (hm : m1 = wuI m 54 0 w.toNat X) (h1 : zHas m0 w.toNat → X = m0.1 54 0 w.toNat) (h2 : ¬ zHas m0 w.toNat → X = -1) : zUf m0 m1 (w + 1) := fun j hj => by
  by_cases hjw : j = w.toNat
  · subst hjw
    have e : m1.1 54 0 w.toNat = X := by rw [hm]; exact wuI_self
    exact ⟨fun _ => ⟨fun z => e.trans (h1 z), fun z => e.trans (h2 z)⟩, fun z => absurd z (by omega)⟩
  · have e : m1.1 54 0 j = m.1 54 0 j := by rw [hm]; exact wuI_nj (by omega)
    rw [e]
    exact ⟨fun z => (h j hj).1 (by omega), fun z => (h j hj).2 (by omega)⟩
