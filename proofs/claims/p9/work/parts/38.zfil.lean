/-! Rows of bytes, cut at their size; files, names, places. -/
abbrev zRc := Int × (Nat → Int)
def zcut (s : Int) (g : Nat → Int) : zRc := (s, fun k => if (k : Int) < s then g k else 0)
theorem zcut_eq {s s' : Int} {g g' : Nat → Int} (h : s = s') (h1 : ∀ k : Nat, (k : Int) < s → g k = g' k) : zcut s g = zcut s' g' := by
  subst h
  unfold zcut
  congr 1
  funext k
  by_cases hk : (k : Int) < s
  · rw [if_pos hk, if_pos hk, h1 k hk]
  · rw [if_neg hk, if_neg hk]
theorem zcut_1 {s : Int} {g : Nat → Int} : (zcut s g).1 = s := rfl
theorem zcut_2 {s : Int} {g : Nat → Int} {k : Nat} (h : (k : Int) < s) : (zcut s g).2 k = g k := if_pos h
theorem zcut_o {s : Int} {g : Nat → Int} {k : Nat} (h : s ≤ (k : Int)) : (zcut s g).2 k = 0 := if_neg (by omega)
/-- the class's row t -/
def zBR (m : wm) (t : Nat) : zRc := zcut (m.1 1 t 1) (m.1 2 t)
theorem zBR_at {m : wm} {t : Nat} {x : Int} (h : 0 ≤ x) : zBat m t x = (zBR m t).2 x.toNat := by
  by_cases hx : x < m.1 1 t 1
  · rw [← zBat_in h hx]
    exact (zcut_2 (by omega)).symm
  · rw [← zBat_out (Or.inr (by omega))]
    exact (zcut_o (by omega)).symm
/-- the reference's rows -/
def zNR (m : wm) (q : Nat) : zRc := zcut (m.1 38 0 q) (fun k => m.1 39 0 (6 * q + k))
def zDR (m : wm) (q : Nat) : zRc := zcut (m.1 40 0 q) (fun k => m.1 41 0 (96 * q + k))
def zNH (m : wm) : zRc := zcut (m.1 34 0 1) (m.1 35 0)
def zDH (m : wm) : zRc := zcut (m.1 34 0 2) (m.1 36 0)
/-- the order of two rows -/
def zCm (a b : zRc) (r : Int) : Prop := (∃ k : Nat, (k : Int) < a.1 ∧ (k : Int) < b.1 ∧ (∀ j, j < k → a.2 j = b.2 j) ∧ a.2 k ≠ b.2 k ∧ r = a.2 k - b.2 k) ∨ ((∀ j : Nat, (j : Int) < a.1 → (j : Int) < b.1 → a.2 j = b.2 j) ∧ r = a.1 - b.1)
theorem zCm_u {a b : zRc} {r r' : Int} (h : zCm a b r) (h' : zCm a b r') : r = r' := by
  rcases h with ⟨k, h1, h2, h3, h4, h5⟩ | ⟨h1, h2⟩
  · rcases h' with ⟨k', g1, g2, g3, g4, g5⟩ | ⟨g1, g2⟩
    · rcases Nat.lt_trichotomy k k' with h | h | h
      · exact absurd (g3 k h) h4
      · subst h; rw [h5, g5]
      · exact absurd (h3 k' h) g4
    · exact absurd (g1 k h1 h2) h4
  · rcases h' with ⟨k', g1, g2, g3, g4, g5⟩ | ⟨g1, g2⟩
    · exact absurd (h1 k' g1 g2) g4
    · rw [h2, g2]
theorem zCm_w {a b : zRc} {r : Int} (h : zCm a b r) : zCm b a (-r) := by
  rcases h with ⟨k, h1, h2, h3, h4, h5⟩ | ⟨h1, h2⟩
  · exact Or.inl ⟨k, h2, h1, fun j hj => (h3 j hj).symm, fun h => h4 h.symm, by omega⟩
  · exact Or.inr ⟨fun j h3 h4 => (h1 j h4 h3).symm, by omega⟩
theorem zCm_0 {s s' : Int} {g g' : Nat → Int} (h : zCm (zcut s g) (zcut s' g') 0) : zcut s g = zcut s' g' := by
  rcases h with ⟨k, h1, h2, h3, h4, h5⟩ | ⟨h1, h2⟩
  · exact absurd (by omega) h4
  · have h3 : s = s' := by have h4 : (0 : Int) = s - s' := h2; omega
    refine zcut_eq h3 fun k hk => ?_
    have h4 := h1 k hk (show (k : Int) < s' by omega)
    rw [zcut_2 hk, zcut_2 (by omega)] at h4
    exact h4
/-- the place of the first file that doesn't come before the name -/
def zPl (F : Nat → zRc) (n : Int) (h : zRc) (r : Int) : Prop := 0 ≤ r ∧ r ≤ n ∧ (∀ x : Nat, (x : Int) < r → ∃ c, zCm (F x) h c ∧ c < 0) ∧ (r < n → ∃ c, zCm (F r.toNat) h c ∧ 0 ≤ c)
theorem zPl_u {F F' : Nat → zRc} {n r r' : Int} {h : zRc} (he : ∀ x : Nat, (x : Int) < n → F x = F' x) (h1 : zPl F n h r) (h2 : zPl F' n h r') : r = r' := by
  obtain ⟨a1, a2, a3, a4⟩ := h1
  obtain ⟨b1, b2, b3, b4⟩ := h2
  rcases Int.lt_trichotomy r r' with hl | hl | hl
  · obtain ⟨c, c1, c2⟩ := a4 (by omega)
    obtain ⟨d, d1, d2⟩ := b3 r.toNat (by omega)
    rw [he r.toNat (by omega)] at c1
    have := zCm_u c1 d1
    omega
  · exact hl
  · obtain ⟨c, c1, c2⟩ := b4 (by omega)
    obtain ⟨d, d1, d2⟩ := a3 r'.toNat (by omega)
    rw [he r'.toNat (by omega)] at d1
    have := zCm_u c1 d1
    omega
/-- is the name there? -/
def zAt (F : Nat → zRc) (n : Int) (h : zRc) (k : Int) : Prop := k < n ∧ zCm (F k.toNat) h 0
theorem zAt_u {F F' : Nat → zRc} {n k : Int} {h : zRc} (he : ∀ x : Nat, (x : Int) < n → F x = F' x) (hk : 0 ≤ k) : zAt F n h k ↔ zAt F' n h k := by
  unfold zAt
  constructor
  · rintro ⟨h1, h2⟩
    rw [he k.toNat (by omega)] at h2
    exact ⟨h1, h2⟩
  · rintro ⟨h1, h2⟩
    rw [← he k.toNat (by omega)] at h2
    exact ⟨h1, h2⟩
/-- a name -/
def zNm (h : zRc) : Prop := 1 ≤ h.1 ∧ h.1 ≤ 6 ∧ ∀ k : Nat, (k : Int) < h.1 → 33 ≤ h.2 k ∧ h.2 k ≤ 126
/-- files -/
def zCF (m : wm) (t x : Nat) : zRc × zRc := (zBR m (m.2.2 7 t x), zBR m (m.2.2 8 t x))
def zFR (m : wm) (q : Nat) : zRc × zRc := (zNR m q, zDR m q)
/-- rows lie apart -/
def zDi (m : wm) : Prop := ∀ t, t < 2 → ∀ a b, a < 6 → b < 6 → (m.2.2 7 t a = m.2.2 7 t b → a = b) ∧ (m.2.2 8 t a = m.2.2 8 t b → a = b)
/-- places that go round -/
def zRot (fr to : Int) (j : Nat) : Nat := if (j : Int) = to then fr.toNat else if to < (j : Int) ∧ (j : Int) ≤ fr then j - 1 else if fr ≤ (j : Int) ∧ (j : Int) < to then j + 1 else j
theorem zRot_to {fr to : Int} {j : Nat} (h : (j : Int) = to) : zRot fr to j = fr.toNat := if_pos h
theorem zRot_dn {fr to : Int} {j : Nat} (h : to < (j : Int)) (h1 : (j : Int) ≤ fr) : zRot fr to j = j - 1 := by unfold zRot; rw [if_neg (by omega), if_pos ⟨h, h1⟩]
theorem zRot_up {fr to : Int} {j : Nat} (h : fr ≤ (j : Int)) (h1 : (j : Int) < to) : zRot fr to j = j + 1 := by unfold zRot; rw [if_neg (by omega), if_neg (by omega), if_pos ⟨h, h1⟩]
theorem zRot_ot {fr to : Int} {j : Nat} (h0 : 0 ≤ fr) (h : (j : Int) < to ∧ (j : Int) < fr ∨ to < (j : Int) ∧ fr < (j : Int)) : zRot fr to j = j := by unfold zRot; rw [if_neg (by omega), if_neg (by omega), if_neg (by omega)]
theorem zRot_c (fr to : Int) (j : Nat) (h0 : 0 ≤ fr) (h1 : 0 ≤ to) : ((j : Int) = to ∧ (zRot fr to j : Int) = fr) ∨ (to < (j : Int) ∧ (j : Int) ≤ fr ∧ (zRot fr to j : Int) = j - 1) ∨ (fr ≤ (j : Int) ∧ (j : Int) < to ∧ (zRot fr to j : Int) = j + 1) ∨ (((j : Int) < to ∧ (j : Int) < fr ∨ to < (j : Int) ∧ fr < (j : Int)) ∧ (zRot fr to j : Int) = j) := by
  rcases (show (j : Int) = to ∨ (to < (j : Int) ∧ (j : Int) ≤ fr) ∨ (fr ≤ (j : Int) ∧ (j : Int) < to) ∨ ((j : Int) < to ∧ (j : Int) < fr ∨ to < (j : Int) ∧ fr < (j : Int)) by omega) with h | h | h | h
  · rw [zRot_to h]; omega
  · rw [zRot_dn h.1 h.2]; omega
  · rw [zRot_up h.1 h.2]; omega
  · rw [zRot_ot h0 h]; omega
/-- a byte of a long -/
def zb8 (v : Int64) (s : Int) : Int := wl2i ((v >>> (wi2l s &&& 63)) &&& Int64.ofInt 255)
theorem zb8_a (a b : Int64) (h : ∀ i, i < 8 → a.toBitVec.getLsbD i = b.toBitVec.getLsbD i) : wand (wl2i a) 255 = wl2i (b &&& Int64.ofInt 255) := by
  have e : ((wi (wl2i a)) &&& (wi 255)).toBitVec = ((b &&& Int64.ofInt 255).toInt32).toBitVec := by
    have e1 : wi (wl2i a) = a.toInt32 := by
      show Int32.ofInt (a.toInt32.toInt) = _
      exact Int32.ofInt_toInt _
    rw [e1]
    show a.toInt32.toBitVec &&& (wi 255).toBitVec = _
    rw [Int64.toBitVec_toInt32, Int64.toBitVec_toInt32]
    apply BitVec.eq_of_getLsbD_eq
    intro i hi
    show _ = ((b.toBitVec &&& (Int64.ofInt 255).toBitVec).signExtend 32).getLsbD i
    rw [BitVec.getLsbD_and, BitVec.getLsbD_signExtend, BitVec.getLsbD_signExtend, if_pos (by omega), if_pos (by omega), BitVec.getLsbD_and]
    by_cases h8 : i < 8
    · rw [h i h8]
      have e2 : (wi 255).toBitVec.getLsbD i = (Int64.ofInt 255).toBitVec.getLsbD i := by
        rcases (show i = 0 ∨ i = 1 ∨ i = 2 ∨ i = 3 ∨ i = 4 ∨ i = 5 ∨ i = 6 ∨ i = 7 by omega) with rfl | rfl | rfl | rfl | rfl | rfl | rfl | rfl <;> rfl
      rw [e2]
      simp [hi]
    · have e2 : (wi 255).toBitVec.getLsbD i = false := by
        show (255#32).getLsbD i = false
        rw [show (255#32) = BitVec.setWidth 32 (255#8) from rfl, BitVec.getLsbD_setWidth, BitVec.getLsbD_of_ge _ _ (by omega)]; simp
      have e3 : (Int64.ofInt 255).toBitVec.getLsbD i = false := by
        show (255#64).getLsbD i = false
        rw [show (255#64) = BitVec.setWidth 64 (255#8) from rfl, BitVec.getLsbD_setWidth, BitVec.getLsbD_of_ge _ _ (by omega)]; simp
      rw [e2, e3]
      simp
  show ((wi (wl2i a)) &&& (wi 255)).toBitVec.toInt = ((b &&& Int64.ofInt 255).toInt32).toBitVec.toInt
  rw [e]
theorem zb8_s (v : Int64) (k : Nat) (hk : k ≤ 7) (i : Nat) (hi : i < 8) : ((v.toUInt64 >>> ((wi2l (8 * k : Nat)).toUInt64 &&& Int64.toUInt64 63)).toInt64).toBitVec.getLsbD i = (v >>> (wi2l (8 * k : Nat) &&& 63)).toBitVec.getLsbD i := by
  have e1 : ((v.toUInt64 >>> ((wi2l (8 * k : Nat)).toUInt64 &&& Int64.toUInt64 63)).toInt64).toBitVec = v.toBitVec >>> (8 * k) := by
    show v.toBitVec >>> (((wi2l (8 * k : Nat)).toUInt64 &&& Int64.toUInt64 63).toBitVec % 64#64) = _
    rcases (show k = 0 ∨ k = 1 ∨ k = 2 ∨ k = 3 ∨ k = 4 ∨ k = 5 ∨ k = 6 ∨ k = 7 by omega) with rfl | rfl | rfl | rfl | rfl | rfl | rfl | rfl <;> rfl
  have e2 : (v >>> (wi2l (8 * k : Nat) &&& 63)).toBitVec = v.toBitVec.sshiftRight (8 * k) := by
    show v.toBitVec.sshiftRight' ((wi2l (8 * k : Nat) &&& 63).toBitVec.smod 64) = _
    rcases (show k = 0 ∨ k = 1 ∨ k = 2 ∨ k = 3 ∨ k = 4 ∨ k = 5 ∨ k = 6 ∨ k = 7 by omega) with rfl | rfl | rfl | rfl | rfl | rfl | rfl | rfl <;> rfl
  rw [e1, e2, BitVec.getLsbD_ushiftRight, BitVec.getLsbD_sshiftRight]
  rw [if_pos (by omega)]
  simp
  omega
theorem zb8_eq (v : Int64) (s : Int) (h0 : 0 ≤ s) (h1 : s ≤ 56) (h2 : s % 8 = 0) : wand (wl2i ((v.toUInt64 >>> ((wi2l s).toUInt64 &&& Int64.toUInt64 63)).toInt64)) 255 = zb8 v s := by
  unfold zb8
  apply zb8_a
  intro i hi
  have h := zb8_s v (s / 8).toNat (by omega) i hi
  rw [show ((8 * (s / 8).toNat : Nat) : Int) = s by omega] at h
  exact h
/-- bytes put behind the end -/
def zApd (g g0 : Nat → Int) (s x : Int) (v : Int64) : Prop := (∀ j : Nat, (j : Int) < s → g j = g0 j) ∧ ∀ u : Nat, (u : Int) < x → g (s.toNat + u) = zb8 v (8 * (x - 1 - (u : Int)))
theorem zApd_cut {g g0 h h0 : Nat → Int} {s s' x : Int} {v : Int64} (hs : 0 ≤ s) (hg : zApd g g0 s x v) (hh : zApd h h0 s' x v) (he : zcut s g0 = zcut s' h0) : zcut (s + x) g = zcut (s' + x) h := by
  have e : s = s' := congrArg Prod.fst he
  subst e
  refine zcut_eq rfl fun k hk => ?_
  by_cases h1 : (k : Int) < s
  · rw [hg.1 k h1, hh.1 k h1]
    have h2 := congrFun (congrArg Prod.snd he) k
    rw [zcut_2 h1, zcut_2 h1] at h2
    exact h2
  · have e2 : k = s.toNat + (k - s.toNat) := by omega
    rw [e2, hg.2 (k - s.toNat) (by omega), hh.2 (k - s.toNat) (by omega)]
theorem zBR_p {m : wm} {t : Nat} : (m.1 1 t 1, fun k : Nat => zBat m t (0 + (k : Int))) = zBR m t := by
  unfold zBR zcut
  congr 1
  funext k
  rw [Int.zero_add, zBR_at (by omega)]
  rfl
/-- a file is written -/
def zPut (F : Nat → zRc × zRc) (n : Int) (h d : zRc) (F' : Nat → zRc × zRc) (n' r : Int) : Prop := ∃ k, zPl (fun x => (F x).1) n h k ∧ ((zAt (fun x => (F x).1) n h k ∧ r = n ∧ n' = n ∧ ∀ x : Nat, (x : Int) < n → F' x = if (x : Int) = k then (h, d) else F x) ∨ (¬ zAt (fun x => (F x).1) n h k ∧ n = 6 ∧ r = 0 ∧ n' = n ∧ ∀ x : Nat, (x : Int) < n → F' x = F x) ∨ (¬ zAt (fun x => (F x).1) n h k ∧ n < 6 ∧ r = n + 1 ∧ n' = n + 1 ∧ ∀ x : Nat, (x : Int) < n + 1 → F' x = if (x : Int) < k then F x else if (x : Int) = k then (h, d) else F (x - 1)))
theorem zPut_u {F G F' G' : Nat → zRc × zRc} {n n' n'' r s : Int} {h d : zRc} (he : ∀ x : Nat, (x : Int) < n → F x = G x) (h1 : zPut F n h d F' n' r) (h2 : zPut G n h d G' n'' s) : r = s ∧ n' = n'' ∧ ∀ x : Nat, (x : Int) < n' → F' x = G' x := by
  obtain ⟨k, a1, a2⟩ := h1
  obtain ⟨k', b1, b2⟩ := h2
  have e1 : ∀ x : Nat, (x : Int) < n → (F x).1 = (G x).1 := fun x hx => by rw [he x hx]
  have ek : k = k' := zPl_u e1 a1 b1
  subst ek
  have eA := zAt_u (h := h) e1 a1.1
  rcases a2 with ⟨a3, a4, a5, a6⟩ | ⟨a3, a4, a5, a6, a7⟩ | ⟨a3, a4, a5, a6, a7⟩
  · rcases b2 with ⟨b3, b4, b5, b6⟩ | ⟨b3, _⟩ | ⟨b3, _⟩
    · refine ⟨by omega, by omega, fun x hx => ?_⟩
      rw [a6 x (by omega), b6 x (by omega), he x (by omega)]
    · exact absurd (eA.mp a3) b3
    · exact absurd (eA.mp a3) b3
  · rcases b2 with ⟨b3, _⟩ | ⟨b3, b4, b5, b6, b7⟩ | ⟨b3, b4, _⟩
    · exact absurd (eA.mpr b3) a3
    · refine ⟨by omega, by omega, fun x hx => ?_⟩
      rw [a7 x (by omega), b7 x (by omega), he x (by omega)]
    · exact absurd a4 (by omega)
  · rcases b2 with ⟨b3, _⟩ | ⟨b3, b4, _⟩ | ⟨b3, b4, b5, b6, b7⟩
    · exact absurd (eA.mpr b3) a3
    · exact absurd a4 (by omega)
    · refine ⟨by omega, by omega, fun x hx => ?_⟩
      rw [a7 x (by omega), b7 x (by omega)]
      have h0 := a1.1
      have h1 := a1.2.1
      by_cases c1 : (x : Int) < k
      · rw [if_pos c1, if_pos c1, he x (by omega)]
      · rw [if_neg c1, if_neg c1]
        by_cases c2 : (x : Int) = k
        · rw [if_pos c2, if_pos c2]
        · rw [if_neg c2, if_neg c2, he (x - 1) (by omega)]
/-- a file is taken out -/
def zTake (F : Nat → zRc × zRc) (n : Int) (h : zRc) (F' : Nat → zRc × zRc) (n' r : Int) : Prop := ∃ k, zPl (fun x => (F x).1) n h k ∧ ((zAt (fun x => (F x).1) n h k ∧ r = 1 ∧ n' = n - 1 ∧ ∀ x : Nat, (x : Int) < n - 1 → F' x = if (x : Int) < k then F x else F (x + 1)) ∨ (¬ zAt (fun x => (F x).1) n h k ∧ r = 0 ∧ n' = n ∧ ∀ x : Nat, (x : Int) < n → F' x = F x))
theorem zTake_u {F G F' G' : Nat → zRc × zRc} {n n' n'' r s : Int} {h : zRc} (he : ∀ x : Nat, (x : Int) < n → F x = G x) (h1 : zTake F n h F' n' r) (h2 : zTake G n h G' n'' s) : r = s ∧ n' = n'' ∧ ∀ x : Nat, (x : Int) < n' → F' x = G' x := by
  obtain ⟨k, a1, a2⟩ := h1
  obtain ⟨k', b1, b2⟩ := h2
  have e1 : ∀ x : Nat, (x : Int) < n → (F x).1 = (G x).1 := fun x hx => by rw [he x hx]
  have ek : k = k' := zPl_u e1 a1 b1
  subst ek
  have eA := zAt_u (h := h) e1 a1.1
  rcases a2 with ⟨a3, a4, a5, a6⟩ | ⟨a3, a4, a5, a6⟩
  · rcases b2 with ⟨b3, b4, b5, b6⟩ | ⟨b3, _⟩
    · refine ⟨by omega, by omega, fun x hx => ?_⟩
      rw [a6 x (by omega), b6 x (by omega), he x (by omega), he (x + 1) (by omega)]
    · exact absurd (eA.mp a3) b3
  · rcases b2 with ⟨b3, _⟩ | ⟨b3, b4, b5, b6⟩
    · exact absurd (eA.mpr b3) a3
    · refine ⟨by omega, by omega, fun x hx => ?_⟩
      rw [a6 x (by omega), b6 x (by omega), he x (by omega)]
/-! frames -/
section ZFF
variable {e : Nat → Nat → Nat → Prop} {m m1 : wm}
theorem zBR_fr {t : Nat} (hf : zfr e m m1) (h1 : ¬ e 1 t 1) (h2 : ∀ j, ¬ e 2 t j) : zBR m1 t = zBR m t := by
  unfold zBR
  exact zcut_eq (hf 1 t 1 h1).1 fun k _ => (hf 2 t k (h2 k)).1
theorem zCF_fr {c : Int} {t x : Nat} (hG : zB c m) (ht : t < 2) (hx : x < 6) (hf : zfr e m m1) (h1 : ¬ e 7 t x) (h2 : ¬ e 8 t x) (h3 : ∀ i, 35 + 6 * t ≤ i ∧ i < 41 + 6 * t ∨ 47 + 6 * t ≤ i ∧ i < 53 + 6 * t → ¬ e 1 i 1) (h4 : ∀ i j, 35 + 6 * t ≤ i ∧ i < 41 + 6 * t ∨ 47 + 6 * t ≤ i ∧ i < 53 + 6 * t → ¬ e 2 i j) : zCF m1 t x = zCF m t x := by
  have hb := hG.2 t x ht hx
  unfold zCF
  rw [(hf 7 t x h1).2.2, (hf 8 t x h2).2.2, zBR_fr hf (h3 _ (by omega)) (fun j => h4 _ j (by omega)), zBR_fr hf (h3 _ (by omega)) (fun j => h4 _ j (by omega))]
theorem zFR_fr {q : Nat} (hf : zfr e m m1) (h1 : ¬ e 38 0 q) (h2 : ∀ k, k < 6 → ¬ e 39 0 (6 * q + k)) (h3 : ¬ e 40 0 q) (h4 : ∀ k, k < 96 → ¬ e 41 0 (96 * q + k)) (b1 : m.1 38 0 q ≤ 6) (b2 : m.1 40 0 q ≤ 96) : zFR m1 q = zFR m q := by
  unfold zFR zNR zDR
  rw [(hf 38 0 q h1).1, (hf 40 0 q h3).1]
  congr 1
  · exact zcut_eq rfl fun k hk => (hf 39 0 _ (h2 k (by omega))).1
  · exact zcut_eq rfl fun k hk => (hf 41 0 _ (h4 k (by omega))).1
theorem zDi_fr (h : zDi m) (hf : zfr e m m1) (h1 : ∀ t j, ¬ e 7 t j) (h2 : ∀ t j, ¬ e 8 t j) : zDi m1 := fun t ht a b ha hb => by
  rw [(hf 7 t a (h1 t a)).2.2, (hf 7 t b (h1 t b)).2.2, (hf 8 t a (h2 t a)).2.2, (hf 8 t b (h2 t b)).2.2]
  exact h t ht a b ha hb
end ZFF
theorem zCm_ne {s s' : Int} {g g' : Nat → Int} {k : Nat} (h1 : (k : Int) < s) (h2 : (k : Int) < s') (h3 : ∀ j, j < k → g j = g' j) (h4 : g k ≠ g' k) : zCm (zcut s g) (zcut s' g') (g k - g' k) := by
  refine Or.inl ⟨k, h1, h2, fun j hj => ?_, ?_, ?_⟩
  · rw [zcut_2 (by omega), zcut_2 (by omega)]; exact h3 j hj
  · rw [zcut_2 h1, zcut_2 h2]; exact h4
  · rw [zcut_2 h1, zcut_2 h2]
theorem zCm_al {s s' : Int} {g g' : Nat → Int} (h : ∀ j : Nat, (j : Int) < s → (j : Int) < s' → g j = g' j) : zCm (zcut s g) (zcut s' g') (s - s') :=
  Or.inr ⟨fun j h1 h2 => (zcut_2 (s := s) h1).trans ((h j h1 h2).trans (zcut_2 (s := s') h2).symm), rfl⟩
theorem zCm_p {a b : Nat → Int} {y v r : Int} : ((∃ k : Nat, (k : Int) < y ∧ (k : Int) < v ∧ (∀ j, j < k → a j = b j) ∧ a k ≠ b k ∧ r = a k - b k) ∨ ((∀ j : Nat, (j : Int) < y → (j : Int) < v → a j = b j) ∧ r = y - v)) → zCm (y, a) (v, b) r := fun h => h
def zApu (g g0 : Nat → Int) (s u x : Int) (v : Int64) : Prop := (∀ j : Nat, (j : Int) < s → g j = g0 j) ∧ ∀ q : Nat, (q : Int) < u → g (s.toNat + q) = zb8 v (8 * (x - 1 - (q : Int)))
theorem zApu_0 {g : Nat → Int} {s x : Int} {v : Int64} : zApu g g s 0 x v := ⟨fun _ _ => rfl, fun q h => absurd h (by omega)⟩
theorem zApu_d {g g0 : Nat → Int} {s x : Int} {v : Int64} (h : zApu g g0 s x x v) : zApd g g0 s x v := h
theorem zApu_s {m : wm} {K t : Nat} {g0 : Nat → Int} {s u x X a : Int} {v : Int64} (h : zApu (m.1 K t) g0 s u x v) (hs : 0 ≤ s) (hu : 0 ≤ u) (ha : a = s + u) (hX : X = zb8 v (8 * (x - 1 - u))) : zApu ((wuI m K t a.toNat X).1 K t) g0 s (u + 1) x v := by
  subst ha
  refine ⟨fun j hj => ?_, fun q hq => ?_⟩
  · rw [wuI_nj (by omega)]; exact h.1 j hj
  · by_cases hq2 : (q : Int) = u
    · rw [show s.toNat + q = (s + u).toNat by omega, wuI_self, hX, hq2]
    · rw [wuI_nj (by omega)]; exact h.2 q (by omega)
/-- one file of the reference for another -/
theorem zFR_mv {m m1 : wm} {a b : Nat} (h1 : m1.1 38 0 b = m.1 38 0 a) (h2 : ∀ j : Nat, (j : Int) < 6 → m1.1 39 0 (6 * b + j) = m.1 39 0 (6 * a + j)) (h3 : m1.1 40 0 b = m.1 40 0 a) (h4 : ∀ j : Nat, (j : Int) < 96 → m1.1 41 0 (96 * b + j) = m.1 41 0 (96 * a + j)) (b1 : m.1 38 0 a ≤ 6) (b2 : m.1 40 0 a ≤ 96) : zFR m1 b = zFR m a := by
  unfold zFR zNR zDR
  congr 1
  · exact zcut_eq h1 fun k hk => h2 k (by omega)
  · exact zcut_eq h3 fun k hk => h4 k (by omega)
theorem zFR_at {m m0 : wm} {b : Nat} (h1 : m.1 38 0 b = m0.1 34 0 1) (h2 : ∀ j : Nat, (j : Int) < m0.1 34 0 1 → m.1 39 0 (6 * b + j) = m0.1 35 0 j) (h3 : m.1 40 0 b = m0.1 34 0 2) (h4 : ∀ j : Nat, (j : Int) < m0.1 34 0 2 → m.1 41 0 (96 * b + j) = m0.1 36 0 j) : zFR m b = (zNH m0, zDH m0) := by
  unfold zFR zNR zDR zNH zDH
  congr 1
  · exact zcut_eq h1 fun k hk => h2 k (by omega)
  · exact zcut_eq h3 fun k hk => h4 k (by omega)
/-- files gone up from i on -/
def zSi (m0 m : wm) (f : Nat) (i n : Int) : Prop := ∀ q : Nat, 6 * f ≤ q → q < 6 * f + 6 → (q : Int) ≤ 6 * (f : Int) + n → zFR m q = if i < (q : Int) then zFR m0 (q - 1) else zFR m0 q
/-- files but the one at k -/
def zSh (m0 m : wm) (f : Nat) (k n e : Int) : Prop := ∀ q : Nat, 6 * f ≤ q → q < 6 * f + 6 → (q : Int) ≤ 6 * (f : Int) + n → (q : Int) ≠ k → zFR m q = if e = 1 ∨ (q : Int) < k then zFR m0 q else zFR m0 (q - 1)
/-- files gone down between k and i -/
def zSd (m0 m : wm) (f : Nat) (k i : Int) : Prop := ∀ q : Nat, 6 * f ≤ q → q < 6 * f + 6 → zFR m q = if k ≤ (q : Int) ∧ (q : Int) < i then zFR m0 (q + 1) else zFR m0 q
theorem zFR_o {c : Int} {m m1 : wm} {e : Nat → Nat → Nat → Prop} {to q : Nat} (hG : zB c m) (hf : zfr e m m1) (he : ∀ k i j, e k i j → k = 38 ∧ j = to ∨ k = 40 ∧ j = to ∨ k = 39 ∧ 6 * to ≤ j ∧ j < 6 * to + 6 ∨ k = 41 ∧ 96 * to ≤ j ∧ j < 96 * to + 96 ∨ k < 38 ∨ 41 < k) (hq : q ≠ to) : zFR m1 q = zFR m q := by
  have b1 : 0 ≤ m.1 38 0 q ∧ m.1 38 0 q ≤ 6 := hG.1 38 _ rfl _ _
  have b2 : 0 ≤ m.1 40 0 q ∧ m.1 40 0 q ≤ 96 := hG.1 40 _ rfl _ _
  exact zFR_fr hf (fun z => by have := he _ _ _ z; omega) (fun k hk z => by have := he _ _ _ z; omega) (fun z => by have := he _ _ _ z; omega) (fun k hk z => by have := he _ _ _ z; omega) b1.2 b2.2
theorem zSi_s {c : Int} {m0 m m1 : wm} {e : Nat → Nat → Nat → Prop} {f : Nat} {i n : Int} (h : zSi m0 m f i n) (hG : zB c m) (hf : zfr e m m1) (he : ∀ k i' j, e k i' j → k = 38 ∧ j = i.toNat ∨ k = 40 ∧ j = i.toNat ∨ k = 39 ∧ 6 * i.toNat ≤ j ∧ j < 6 * i.toNat + 6 ∨ k = 41 ∧ 96 * i.toNat ≤ j ∧ j < 96 * i.toNat + 96) (hm : zFR m1 i.toNat = zFR m (i - 1).toNat) (h1 : 6 * (f : Int) < i) (h2 : i ≤ 6 * (f : Int) + n) : zSi m0 m1 f (i - 1) n := fun q q1 q2 q3 => by
  by_cases hq : q = i.toNat
  · rw [hq, hm, h (i - 1).toNat (by omega) (by omega) (by omega), if_neg (by omega), if_pos (by omega), show (i - 1).toNat = i.toNat - 1 by omega]
  · rw [zFR_o (to := i.toNat) hG hf (fun k i' j z => by have := he k i' j z; omega) hq, h q q1 q2 q3]
    by_cases hi : i < (q : Int)
    · rw [if_pos hi, if_pos (by omega)]
    · rw [if_neg hi, if_neg (by omega)]
theorem zSi_h {m0 m : wm} {f : Nat} {k n : Int} (h : zSi m0 m f k n) : zSh m0 m f k n 0 := fun q q1 q2 q3 q4 => by
  rw [h q q1 q2 q3]
  by_cases hq : k < (q : Int)
  · rw [if_pos hq, if_neg (by omega)]
  · rw [if_neg hq, if_pos (by omega)]
theorem zSh_1 {m : wm} {f : Nat} {k n : Int} : zSh m m f k n 1 := fun q _ _ _ _ => by rw [if_pos (Or.inl rfl)]
theorem zSh_w {c : Int} {m0 m : wm} {f K J : Nat} {k n e X : Int} (h : zSh m0 m f k n e) (hG : zB c m) (hk : K = 38 ∧ J = k.toNat ∨ K = 40 ∧ J = k.toNat ∨ K = 39 ∧ 6 * k.toNat ≤ J ∧ J < 6 * k.toNat + 6 ∨ K = 41 ∧ 96 * k.toNat ≤ J ∧ J < 96 * k.toNat + 96 ∨ K < 38 ∨ 41 < K) (h0 : 0 ≤ k) : zSh m0 (wuI m K 0 J X) f k n e := fun q q1 q2 q3 q4 => by
  rw [← h q q1 q2 q3 q4]
  exact zFR_o (to := k.toNat) (e := fun k' i' j' => k' = K ∧ j' = J) hG (zfr_wI zfr_rf ⟨rfl, rfl⟩) (fun k' i' j' z => by omega) (by omega)
theorem zSd_0 {m : wm} {f : Nat} {k i : Int} (hi : i ≤ k) : zSd m m f k i := fun q _ _ => by rw [if_neg (by omega)]
theorem zSd_s {c : Int} {m0 m m1 : wm} {e : Nat → Nat → Nat → Prop} {f : Nat} {k i : Int} (h : zSd m0 m f k i) (hG : zB c m) (hf : zfr e m m1) (he : ∀ k i' j, e k i' j → k = 38 ∧ j = i.toNat ∨ k = 40 ∧ j = i.toNat ∨ k = 39 ∧ 6 * i.toNat ≤ j ∧ j < 6 * i.toNat + 6 ∨ k = 41 ∧ 96 * i.toNat ≤ j ∧ j < 96 * i.toNat + 96) (hm : zFR m1 i.toNat = zFR m (i + 1).toNat) (h0 : 0 ≤ k) (h1 : k ≤ i) (h2 : i + 1 < 6 * (f : Int) + 6) (h3 : 6 * (f : Int) ≤ k) : zSd m0 m1 f k (i + 1) := fun q q1 q2 => by
  by_cases hq : q = i.toNat
  · rw [hq, hm, h (i + 1).toNat (by omega) (by omega), if_neg (by omega), if_pos (by omega), show (i + 1).toNat = i.toNat + 1 by omega]
  · rw [zFR_o (to := i.toNat) hG hf (fun k i' j z => by have := he k i' j z; omega) hq, h q q1 q2]
    by_cases hi : k ≤ (q : Int) ∧ (q : Int) < i
    · rw [if_pos hi, if_pos (by omega)]
    · rw [if_neg hi, if_neg (by omega)]
/-- the reference's write and remove, put together -/
theorem zPut_r {m0 m1 : wm} {f k n n' r e : Int} (hf : 0 ≤ f) (hP : zPl (fun x => zNR m0 (6 * f.toNat + x)) n (zNH m0) (k - 6 * f)) (hS : zSh m0 m1 f.toNat k n e) (hk : zFR m1 k.toNat = (zNH m0, zDH m0)) (hn6 : n ≤ 6) (h : (zAt (fun x => zNR m0 (6 * f.toNat + x)) n (zNH m0) (k - 6 * f) ∧ e = 1 ∧ r = n ∧ n' = n) ∨ (¬ zAt (fun x => zNR m0 (6 * f.toNat + x)) n (zNH m0) (k - 6 * f) ∧ e = 0 ∧ n < 6 ∧ r = n + 1 ∧ n' = n + 1)) : zPut (fun x => zFR m0 (6 * f.toNat + x)) n (zNH m0) (zDH m0) (fun x => zFR m1 (6 * f.toNat + x)) n' r := by
  have h0 := hP.1
  have h1 := hP.2.1
  refine ⟨k - 6 * f, hP, ?_⟩
  rcases h with ⟨a1, a2, a3, a4⟩ | ⟨a1, a2, a3, a4, a5⟩
  · refine Or.inl ⟨a1, a3, a4, fun x hx => ?_⟩
    show zFR m1 (6 * f.toNat + x) = if (x : Int) = k - 6 * f then (zNH m0, zDH m0) else zFR m0 (6 * f.toNat + x)
    by_cases hq : (x : Int) = k - 6 * f
    · rw [if_pos hq, show 6 * f.toNat + x = k.toNat by omega]; exact hk
    · rw [if_neg hq, hS _ (by omega) (by omega) (by omega) (by omega), if_pos (Or.inl a2)]
  · refine Or.inr (Or.inr ⟨a1, a3, a4, a5, fun x hx => ?_⟩)
    show zFR m1 (6 * f.toNat + x) = if (x : Int) < k - 6 * f then zFR m0 (6 * f.toNat + x) else if (x : Int) = k - 6 * f then (zNH m0, zDH m0) else zFR m0 (6 * f.toNat + (x - 1))
    by_cases hl : (x : Int) < k - 6 * f
    · rw [if_pos hl, hS _ (by omega) (by omega) (by omega) (by omega), if_pos (Or.inr (by omega))]
    · rw [if_neg hl]
      by_cases hq : (x : Int) = k - 6 * f
      · rw [if_pos hq, show 6 * f.toNat + x = k.toNat by omega]; exact hk
      · rw [if_neg hq, hS _ (by omega) (by omega) (by omega) (by omega), if_neg (by omega), show 6 * f.toNat + x - 1 = 6 * f.toNat + (x - 1) by omega]
theorem zPut_f {m0 m1 : wm} {f k n n' : Int} (hP : zPl (fun x => zNR m0 (6 * f.toNat + x)) n (zNH m0) (k - 6 * f)) (h6 : n = 6) (hA : ¬ zAt (fun x => zNR m0 (6 * f.toNat + x)) n (zNH m0) (k - 6 * f)) (hs : ∀ q, zFR m1 q = zFR m0 q) (hn : n' = n) : zPut (fun x => zFR m0 (6 * f.toNat + x)) n (zNH m0) (zDH m0) (fun x => zFR m1 (6 * f.toNat + x)) n' 0 :=
  ⟨k - 6 * f, hP, Or.inr (Or.inl ⟨hA, h6, rfl, hn, fun x _ => hs _⟩)⟩
theorem zTake_r {m0 m1 : wm} {f k n n' : Int} (hf : 0 ≤ f) (hP : zPl (fun x => zNR m0 (6 * f.toNat + x)) n (zNH m0) (k - 6 * f)) (hA : zAt (fun x => zNR m0 (6 * f.toNat + x)) n (zNH m0) (k - 6 * f)) (hS : zSd m0 m1 f.toNat k (6 * f + (n - 1))) (hn6 : n ≤ 6) (hn : n' = n - 1) : zTake (fun x => zFR m0 (6 * f.toNat + x)) n (zNH m0) (fun x => zFR m1 (6 * f.toNat + x)) n' 1 := by
  have h0 := hP.1
  refine ⟨k - 6 * f, hP, Or.inl ⟨hA, rfl, hn, fun x hx => ?_⟩⟩
  show zFR m1 (6 * f.toNat + x) = if (x : Int) < k - 6 * f then zFR m0 (6 * f.toNat + x) else zFR m0 (6 * f.toNat + (x + 1))
  rw [hS _ (by omega) (by omega)]
  by_cases hl : (x : Int) < k - 6 * f
  · rw [if_pos hl, if_neg (by omega)]
  · rw [if_neg hl, if_pos (by omega)]
    rfl
theorem zTake_f {m0 m1 : wm} {f k n n' : Int} (hP : zPl (fun x => zNR m0 (6 * f.toNat + x)) n (zNH m0) (k - 6 * f)) (hA : ¬ zAt (fun x => zNR m0 (6 * f.toNat + x)) n (zNH m0) (k - 6 * f)) (hs : ∀ q, zFR m1 q = zFR m0 q) (hn : n' = n) : zTake (fun x => zFR m0 (6 * f.toNat + x)) n (zNH m0) (fun x => zFR m1 (6 * f.toNat + x)) n' 0 :=
  ⟨k - 6 * f, hP, Or.inr ⟨hA, rfl, hn, fun x _ => hs _⟩⟩
def zAA (A : Prop) (e n n' : Int) : Prop := (A ∧ e = 1 ∧ n' = n) ∨ (¬ A ∧ e = 0 ∧ n < 6 ∧ n' = n + 1)
section ZFH
variable {e : Nat → Nat → Nat → Prop} {m m1 : wm}
theorem zNH_fr (hf : zfr e m m1) (h1 : ¬ e 34 0 1) (h2 : ∀ j, ¬ e 35 0 j) : zNH m1 = zNH m := zcut_eq (hf 34 0 1 h1).1 fun k _ => (hf 35 0 k (h2 k)).1
theorem zDH_fr (hf : zfr e m m1) (h1 : ¬ e 34 0 2) (h2 : ∀ j, ¬ e 36 0 j) : zDH m1 = zDH m := zcut_eq (hf 34 0 2 h1).1 fun k _ => (hf 36 0 k (h2 k)).1
end ZFH
