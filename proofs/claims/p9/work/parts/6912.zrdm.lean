/-! A manifest read: the class. -/
theorem zCm_ct {y v r : Int} {a b : Nat → Int} : zCm (y, a) (v, b) r ↔ zCm (zcut y a) (zcut v b) r := by
  constructor
  · intro h
    rcases h with ⟨k, h1, h2, h3, h4, h5⟩ | ⟨h1, h2⟩
    · rw [h5]
      exact zCm_ne h1 h2 h3 h4
    · rw [h2]
      exact zCm_al h1
  · intro h
    rcases h with ⟨k, h1, h2, h3, h4, h5⟩ | ⟨h1, h2⟩
    · have h1' : (k : Int) < y := h1
      have h2' : (k : Int) < v := h2
      rw [zcut_2 h1', zcut_2 h2'] at h4 h5
      exact Or.inl ⟨k, h1', h2', fun j hj => by have h := h3 j hj; rw [zcut_2 (by omega), zcut_2 (by omega)] at h; exact h, h4, h5⟩
    · exact Or.inr ⟨fun j h3 h4 => by have h := h1 j h3 h4; rw [zcut_2 h3, zcut_2 h4] at h; exact h, h2⟩
/-- a file of a manifest, its end left out -/
def zMk (b : Int → Int) (j : Nat) : Prop := (1 ≤ b (zat b j) ∧ b (zat b j) ≤ 6 ∧ ∀ k : Nat, (k : Int) < b (zat b j) → 33 ≤ b (zat b j + 1 + (k : Int)) ∧ b (zat b j + 1 + (k : Int)) ≤ 126) ∧ b (zat b j + 1 + b (zat b j)) ≤ 96 ∧ (j = 0 ∨ ∃ r, zCm (zNa b (zat b (j - 1))) (zNa b (zat b j)) r ∧ r < 0)
theorem zMan_k {S v : Int} {b : Int → Int} (h : zMan S v b) : 256 * b 0 + b 1 = v ∧ b 2 ≤ 6 ∧ (∀ j : Nat, (j : Int) < b 2 → zMk b j) ∧ zat b (b 2).toNat = S := by
  obtain ⟨_, h1, h2, h3, h4⟩ := h
  refine ⟨h1, h2, fun j hj => ?_, h4⟩
  obtain ⟨a1, a2, a3, a4, a5, a6⟩ := h3 j hj
  exact ⟨⟨a1, a2, a5⟩, a4, a6⟩
theorem zat_up {b : Int → Int} (hb : ∀ a, 0 ≤ b a) (i : Nat) : ∀ j : Nat, i ≤ j → zat b i ≤ zat b j := by
  intro j
  induction j with
  | zero => intro h; rw [show i = 0 by omega]; exact Int.le_refl _
  | succ j ih =>
    intro h
    by_cases hi : i = j + 1
    · rw [hi]; exact Int.le_refl _
    · have h1 := ih (by omega)
      have h2 := hb (zat b j)
      show zat b i ≤ zat b j + 10 + b (zat b j)
      omega
theorem zMan_y {S v : Int} {b : Int → Int} (hb : ∀ a, 0 ≤ b a) (h1 : 256 * b 0 + b 1 = v) (h2 : b 2 ≤ 6) (h3 : ∀ j : Nat, (j : Int) < b 2 → zMk b j) (h4 : zat b (b 2).toNat = S) : zMan S v b := by
  have h5 := zat_up hb 0 (b 2).toNat (Nat.zero_le _)
  have h6 : zat b 0 = 3 := rfl
  refine ⟨by omega, h1, h2, fun j hj => ?_, h4⟩
  obtain ⟨⟨a1, a2, a5⟩, a4, a6⟩ := h3 j hj
  have h7 := zat_up hb (j + 1) (b 2).toNat (by omega)
  have h8 : zat b (j + 1) = zat b j + 10 + b (zat b j) := rfl
  exact ⟨a1, a2, by omega, a4, a5, a6⟩
/-- what is noted of a manifest's file -/
def zTm (m : wm) (t : Nat) (b : Int → Int) (j : Nat) : Prop := m.1 30 t j = zat b j + 1 ∧ m.1 31 t j = b (zat b j) ∧ m.1 32 t j = b (zat b j + 1 + b (zat b j)) ∧ m.2.1 33 t j = zen (fun k => b (zat b j + 2 + b (zat b j) + (k : Int))) 8
theorem zBR_b {m : wm} {R k : Nat} : (zBR m R).2 k = zBat m R (k : Int) := by
  show (if (k : Int) < m.1 1 R 1 then m.1 2 R k else 0) = (if 0 ≤ (k : Int) ∧ (k : Int) < m.1 1 R 1 then m.1 2 R ((k : Int).toNat) else 0)
  by_cases h : (k : Int) < m.1 1 R 1
  · rw [if_pos h, if_pos ⟨by omega, h⟩]; rfl
  · rw [if_neg h, if_neg (fun z => h z.2)]
/-- a name behind the last one -/
def zBl (m : wm) (t : Nat) (x : Int) : Prop := x = 0 ∨ ∃ r, zCm (m.1 31 t (x - 1).toNat, fun q : Nat => zBat m (101 + 7 * t + 0) (m.1 30 t (x - 1).toNat + (q : Int))) (m.1 31 t x.toNat, fun q : Nat => zBat m (101 + 7 * t + 0) (m.1 30 t x.toNat + (q : Int))) r ∧ r < 0
theorem zBl_k {m : wm} {t : Nat} {x : Int} {b : Int → Int} (hx : 0 ≤ x) (hb : ∀ a, zBat m (101 + 7 * t + 0) a = b a) (h1 : zTm m t b x.toNat) (h0 : x ≠ 0 → zTm m t b (x.toNat - 1)) : zBl m t x ↔ (x.toNat = 0 ∨ ∃ r, zCm (zNa b (zat b (x.toNat - 1))) (zNa b (zat b x.toNat)) r ∧ r < 0) := by
  by_cases hz : x = 0
  · exact ⟨fun _ => Or.inl (by omega), fun _ => Or.inl hz⟩
  · have h2 := h0 hz
    unfold zBl zNa
    rw [show (x - 1).toNat = x.toNat - 1 by omega, h1.1, h1.2.1, h2.1, h2.2.1, show (fun q : Nat => zBat m (101 + 7 * t + 0) (zat b (x.toNat - 1) + 1 + (q : Int))) = (fun q : Nat => b (zat b (x.toNat - 1) + 1 + (q : Int))) from funext fun q => hb _, show (fun q : Nat => zBat m (101 + 7 * t + 0) (zat b x.toNat + 1 + (q : Int))) = (fun q : Nat => b (zat b x.toNat + 1 + (q : Int))) from funext fun q => hb _]
    constructor
    · intro h
      rcases h with h | ⟨r, h, h'⟩
      · exact absurd h hz
      · exact Or.inr ⟨r, zCm_ct.1 h, h'⟩
    · intro h
      rcases h with h | ⟨r, h, h'⟩
      · exact absurd h (by omega)
      · exact Or.inr ⟨r, zCm_ct.2 h, h'⟩
theorem zen_2 {g : Nat → Int} (h0 : 0 ≤ g 0 ∧ g 0 ≤ 255) (h1 : 0 ≤ g 1 ∧ g 1 ≤ 255) : (zen g 2).toInt = 256 * g 0 + g 1 := by
  have e0 : (zen g 0).toInt = 0 := rfl
  have e1 : (zen g 1).toInt = 256 * (zen g 0).toInt + g 0 := znum_s (by rw [e0]; omega) h0
  have e2 : (zen g 2).toInt = 256 * (zen g 1).toInt + g 1 := znum_s (by rw [e1, e0]; omega) h1
  rw [e2, e1, e0]
  omega
theorem zvn_i {c : Int} {m : wm} {R : Nat} {r : Int64} {n : Int} (hG : zB c m) (h : r = zen (fun k => (zBR m R).2 ((0 : Int).toNat + k)) (2 : Int).toNat) (hn : 0 ≤ n ∧ n ≤ 65535) : wlcmp r (wi2l n) = 0 ↔ 256 * zBat m R 0 + zBat m R 1 = n := by
  have g0 : (zBR m R).2 ((0 : Int).toNat + 0) = zBat m R 0 := zBR_b
  have g1 : (zBR m R).2 ((0 : Int).toNat + 1) = zBat m R 1 := zBR_b
  have b0 := zBat_rg hG R 0
  have b1 := zBat_rg hG R 1
  have e : r.toInt = 256 * zBat m R 0 + zBat m R 1 := by
    rw [h]
    have z := zen_2 (g := fun k => (zBR m R).2 ((0 : Int).toNat + k)) (by show 0 ≤ (zBR m R).2 ((0 : Int).toNat + 0) ∧ (zBR m R).2 ((0 : Int).toNat + 0) ≤ 255; rw [g0]; exact b0) (by show 0 ≤ (zBR m R).2 ((0 : Int).toNat + 1) ∧ (zBR m R).2 ((0 : Int).toNat + 1) ≤ 255; rw [g1]; exact b1)
    exact z.trans (by show 256 * (zBR m R).2 ((0 : Int).toNat + 0) + (zBR m R).2 ((0 : Int).toNat + 1) = _; rw [g0, g1])
  have w := wi2l_toInt (X := n) (by omega) (by omega)
  constructor
  · intro hz
    have z := (wlcmp_rg r (wi2l n)).2.2.1 hz
    rw [z, w] at e
    exact e.symm
  · intro hz
    exact (wlcmp_rg r (wi2l n)).2.2.2 (Int64.toInt_inj.1 (by rw [e, w]; exact hz))
theorem wuL_sf {m : wm} {k i j : Nat} {x : Int64} : (wuL m k i j x).2.1 k i j = x := by
  show (if k = k ∧ i = i ∧ j = j then x else m.2.1 k i j) = x
  rw [if_pos ⟨rfl, rfl, rfl⟩]
theorem wuL_nf {m : wm} {k i j j' : Nat} {x : Int64} (h : j' ≠ j) : (wuL m k i j x).2.1 k i j' = m.2.1 k i j' := by
  show (if k = k ∧ i = i ∧ j' = j then x else m.2.1 k i j') = _
  rw [if_neg (fun z => h z.2.2)]
theorem zTm_s {m ma mb mc md : wm} {t : Nat} {w z x y : Int} {v : Int64} {b : Int → Int} (ha : ma = wuI m 30 t w.toNat (z + 1)) (hb : mb = wuI ma 31 t w.toNat x) (hc : mc = wuI mb 32 t w.toNat y) (hd : md = wuL mc 33 t w.toNat v) (hz : z = zat b w.toNat) (hx : x = b z) (hy : y = b (z + 1 + x)) (hv : v = zen (fun k => b (z + 2 + x + (k : Int))) 8) (ht : ∀ j : Nat, (j : Int) < w → zTm m t b j) (hw : 0 ≤ w) : ∀ j : Nat, (j : Int) < w + 1 → zTm md t b j := by
  subst hz
  subst hx
  subst hy
  subst hv
  intro j hj
  have e30 : md.1 30 t j = ma.1 30 t j := by rw [hd, hc, hb]; rfl
  have e31 : md.1 31 t j = mb.1 31 t j := by rw [hd, hc]; rfl
  have e32 : md.1 32 t j = mc.1 32 t j := by rw [hd]; rfl
  unfold zTm
  rw [e30, e31, e32]
  by_cases hjw : (j : Int) < w
  · obtain ⟨a1, a2, a3, a4⟩ := ht j hjw
    have f30 : ma.1 30 t j = m.1 30 t j := by rw [ha]; exact wuI_nj (by omega)
    have f31 : mb.1 31 t j = m.1 31 t j := by rw [hb, wuI_nj (by omega), ha]; rfl
    have f32 : mc.1 32 t j = m.1 32 t j := by rw [hc, wuI_nj (by omega), hb, ha]; rfl
    have f33 : md.2.1 33 t j = m.2.1 33 t j := by rw [hd, wuL_nf (by omega), hc, hb, ha]; rfl
    rw [f30, f31, f32, f33]
    exact ⟨a1, a2, a3, a4⟩
  · rw [show j = w.toNat by omega]
    exact ⟨by rw [ha, wuI_self], by rw [hb, wuI_self], by rw [hc, wuI_self], by rw [hd, wuL_sf]⟩
theorem zNx_k {m : wm} {R t j : Nat} {b : Int → Int} (hb : ∀ a, zBat m R a = b a) (h1 : zTm m t b j) : zNx m R (m.1 30 t j) (m.1 31 t j) ↔ (1 ≤ b (zat b j) ∧ b (zat b j) ≤ 6 ∧ ∀ k : Nat, (k : Int) < b (zat b j) → 33 ≤ b (zat b j + 1 + (k : Int)) ∧ b (zat b j + 1 + (k : Int)) ≤ 126) := by
  unfold zNx
  rw [h1.1, h1.2.1, show zBat m R = b from funext hb]
