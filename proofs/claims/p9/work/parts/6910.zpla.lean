/-! The reference's places and rows, as they are emptied, cleared, shifted. -/
def zkq (x y b : Int) (r : Int × Int × Int × Int64) : Bool := decide (¬ (x ≤ r.1 ∧ r.1 ≤ y ∧ (b < 0 ∨ r.2.1 = b)))
theorem zRdr_L {m0 m1 : wm} {x y b : Int} (h : zRdr m0 m1 x y b) : zLR m1 = (zLR m0).filter (zkq x y b) := by
  obtain ⟨h1, h2⟩ := h
  have hu : zRu m1 = zct (zRk m0 x y b) (zRu m0) := by
    show (m1.1 34 0 30).toNat = _
    rw [h1]
    exact Int.toNat_natCast _
  unfold zLR
  rw [hu, zL_cmp (K := zRk m0 x y b) (R := fun j => (m0.1 58 0 j, m0.1 59 0 j, m0.1 60 0 j, m0.2.1 61 0 j)) (fun i hi hK => by
    obtain ⟨a1, a2, a3, a4⟩ := h2 i hi hK
    show (m1.1 58 0 _, m1.1 59 0 _, m1.1 60 0 _, m1.2.1 61 0 _) = _
    rw [a1, a2, a3, a4])]
  exact zL_fm (k := zkq x y b)
/-- the class's, too -/
def zkc9 (x y : Int) (r : Int × Int × Int64) : Bool := decide (r.1 < x ∨ y < r.1)
theorem zDr_L {m0 m1 : wm} {x y : Int} (h : zDr m0 m1 x y) : zLC m1 = (zLC m0).filter (zkc9 x y) := by
  obtain ⟨h1, h2⟩ := h
  have hu : zCu0 m1 = zct (zOut m0 x y) (zCu0 m0) := by
    show (m1.1 22 0 3).toNat = _
    rw [h1]
    exact Int.toNat_natCast _
  unfold zLC
  rw [hu, zL_cmp (K := zOut m0 x y) (R := fun j => (m0.1 23 0 j, m0.1 24 0 j, m0.2.1 25 0 j)) (fun i hi hK => by
    obtain ⟨a1, a2, a3⟩ := h2 i hi hK
    show (m1.1 23 0 _, m1.1 24 0 _, m1.2.1 25 0 _) = _
    rw [a1, a2, a3])]
  exact zL_fm (k := zkc9 x y)
/-- rows of a place's first items gone -/
def zkp (f k : Int) (r : Int × Int × Int × Int64) : Bool := decide (¬ (7 * f ≤ r.1 ∧ r.1 < 7 * f + k))
theorem zkp_0 {f : Int} {l : List (Int × Int × Int × Int64)} : l.filter (zkp f 0) = l := List.filter_eq_self.mpr fun r _ => decide_eq_true (by omega)
theorem zkp_s {f k : Int} {l : List (Int × Int × Int × Int64)} (hk : 0 ≤ k) : (l.filter (zkp f k)).filter (zkq (7 * f + k) (7 * f + k) (-1)) = l.filter (zkp f (k + 1)) := by
  rw [List.filter_filter]
  congr 1
  funext r
  show (decide (¬ (7 * f + k ≤ r.1 ∧ r.1 ≤ 7 * f + k ∧ ((-1 : Int) < 0 ∨ r.2.1 = -1))) && decide (¬ (7 * f ≤ r.1 ∧ r.1 < 7 * f + k))) = decide (¬ (7 * f ≤ r.1 ∧ r.1 < 7 * f + (k + 1)))
  rw [← Bool.decide_and]
  exact decide_eq_decide.mpr ⟨fun h => by omega, fun h => by omega⟩
/-- rows of a place go to the one before -/
def zsh (f : Int) (r : Int × Int × Int × Int64) : Int × Int × Int × Int64 := if 7 * f ≤ r.1 ∧ r.1 ≤ 7 * f + 6 then (r.1 - 7, r.2) else r
def zSi1 (m0 m : wm) (f k : Int) : Prop := m.1 34 0 30 = m0.1 34 0 30 ∧ ∀ j : Nat, m.1 58 0 j = if (j : Int) < k ∧ 7 * f ≤ m0.1 58 0 j ∧ m0.1 58 0 j ≤ 7 * f + 6 then m0.1 58 0 j - 7 else m0.1 58 0 j
theorem zSi1_s {m0 m m1 : wm} {f k X : Int} (h : zSi1 m0 m f k) (hk : 0 ≤ k) (hm : m1 = wuI m 58 0 k.toNat X) (hX : X = if 7 * f ≤ m0.1 58 0 k.toNat ∧ m0.1 58 0 k.toNat ≤ 7 * f + 6 then m0.1 58 0 k.toNat - 7 else m0.1 58 0 k.toNat) : zSi1 m0 m1 f (k + 1) := by
  refine ⟨by rw [hm]; exact h.1, fun j => ?_⟩
  by_cases hj : j = k.toNat
  · subst hj
    rw [hm, wuI_self, hX]
    by_cases hc : 7 * f ≤ m0.1 58 0 k.toNat ∧ m0.1 58 0 k.toNat ≤ 7 * f + 6
    · rw [if_pos hc, if_pos ⟨by omega, hc⟩]
    · rw [if_neg hc, if_neg (fun z => hc z.2)]
  · rw [hm, wuI_nj (by omega), h.2 j]
    by_cases hc : (j : Int) < k ∧ 7 * f ≤ m0.1 58 0 j ∧ m0.1 58 0 j ≤ 7 * f + 6
    · rw [if_pos hc, if_pos ⟨by omega, hc.2⟩]
    · rw [if_neg hc, if_neg (fun z => hc ⟨by omega, z.2⟩)]
theorem zSi1_L {m0 m : wm} {f k : Int} (h : zSi1 m0 m f k) (hk : m0.1 34 0 30 ≤ k) (h59 : ∀ j : Nat, m.1 59 0 j = m0.1 59 0 j) (h60 : ∀ j : Nat, m.1 60 0 j = m0.1 60 0 j) (h61 : ∀ j : Nat, m.2.1 61 0 j = m0.2.1 61 0 j) : zLR m = (zLR m0).map (zsh f) := by
  have hu : zRu m = zRu m0 := by unfold zRu; rw [h.1]
  unfold zLR
  rw [hu, List.map_map]
  refine List.map_congr_left fun j hj => ?_
  have hj2 := List.mem_range.mp hj
  show (m.1 58 0 j, m.1 59 0 j, m.1 60 0 j, m.2.1 61 0 j) = zsh f (m0.1 58 0 j, m0.1 59 0 j, m0.1 60 0 j, m0.2.1 61 0 j)
  rw [h59, h60, h61, h.2 j]
  unfold zsh
  by_cases hc : 7 * f ≤ m0.1 58 0 j ∧ m0.1 58 0 j ≤ 7 * f + 6
  · rw [if_pos hc, if_pos ⟨by unfold zRu at hj2; omega, hc⟩]
  · rw [if_neg hc, if_neg (fun z => hc z.2)]
/-- a place's numbers when some places have gone down by one: of so many cells each -/
def zHv (k : Nat) (u d : Int) (m0 m : wm) (f a : Int) : Prop := ∀ j : Int, 0 ≤ j → (u * (4 * f) ≤ j → j < u * a → m.1 k 0 j.toNat = m0.1 k 0 (j + u).toNat) ∧ (u * a ≤ j → j < u * (a + 1) → m.1 k 0 j.toNat = d) ∧ (j < u * (4 * f) ∨ u * (a + 1) ≤ j → m.1 k 0 j.toNat = m0.1 k 0 j.toNat)
/-- a shift of place f, as a whole -/
def zSf (k : Nat) (u d : Int) (m0 m : wm) (f : Int) : Prop := ∀ j : Int, 0 ≤ j → (u * (f - 1) ≤ j → j < u * f → m.1 k 0 j.toNat = m0.1 k 0 (j + u).toNat) ∧ (u * f ≤ j → j < u * (f + 1) → m.1 k 0 j.toNat = d) ∧ (j < u * (f - 1) ∨ u * (f + 1) ≤ j → m.1 k 0 j.toNat = m0.1 k 0 j.toNat)
theorem zZe_h {k : Nat} {m0 m m1 : wm} {f : Int} (hf : 0 ≤ f) (h : m.1 k 0 = m0.1 k 0) (h1 : ∀ j : Nat, m1.1 k 0 j = (wuI m k 0 f.toNat 0).1 k 0 j) : zZe k m0 m1 f := fun j hj => by rw [h1, wuI_at hf hj, h]
theorem zSi1_0 {m : wm} {f : Int} : zSi1 m m f 0 := ⟨rfl, fun j => by rw [if_neg (by omega)]⟩
theorem zSf_1 {k : Nat} {m0 m m1 : wm} {f : Int} (hC : zCp k m0 m (f - 1) f 1) (hE : zZe k m m1 f) (hf : 1 ≤ f) : zSf k 1 0 m0 m1 f := fun j hj => ⟨fun a b => by rw [hE j hj, if_neg (by omega), hC j hj, if_pos (by omega)], fun a b => by rw [hE j hj, if_pos (by omega)], fun a => by rw [hE j hj, if_neg (by omega), hC j hj, if_neg (by omega)]⟩
theorem zSf_7 {k : Nat} {d : Int} {m0 m m1 : wm} {f : Int} (hC : zCp k m0 m (7 * f - 7) (7 * f) 7) (hE : ∀ j : Int, 0 ≤ j → m1.1 k 0 j.toNat = if 7 * f ≤ j ∧ j < 7 * f + 7 then d else m.1 k 0 j.toNat) (hf : 1 ≤ f) : zSf k 7 d m0 m1 f := fun j hj => ⟨fun a b => by rw [hE j hj, if_neg (by omega), hC j hj, if_pos (by omega)], fun a b => by rw [hE j hj, if_pos (by omega)], fun a => by rw [hE j hj, if_neg (by omega), hC j hj, if_neg (by omega)]⟩
theorem zSf_14 {k : Nat} {d : Int} {m0 m m1 : wm} {f : Int} (hC : zCp k m0 m (14 * f - 14) (14 * f) 14) (hE : ∀ j : Int, 0 ≤ j → m1.1 k 0 j.toNat = if 14 * f ≤ j ∧ j < 14 * f + 2 * 7 then d else m.1 k 0 j.toNat) (hf : 1 ≤ f) : zSf k 14 d m0 m1 f := fun j hj => ⟨fun a b => by rw [hE j hj, if_neg (by omega), hC j hj, if_pos (by omega)], fun a b => by rw [hE j hj, if_pos (by omega)], fun a => by rw [hE j hj, if_neg (by omega), hC j hj, if_neg (by omega)]⟩
def zShf (m0 m1 : wm) (f : Int) : Prop := zSf 50 1 0 m0 m1 f ∧ zSf 51 1 0 m0 m1 f ∧ zSf 52 1 0 m0 m1 f ∧ zSf 54 7 (-1) m0 m1 f ∧ zSf 57 7 0 m0 m1 f ∧ zSf 55 14 0 m0 m1 f ∧ zCp 56 m0 m1 (728 * f - 728) (728 * f) 728 ∧ zLR m1 = (zLR m0).map (zsh f)
def zrn (f a : Int) (r : Int × Int × Int × Int64) : Int × Int × Int × Int64 := if 28 * f + 7 ≤ r.1 ∧ r.1 ≤ 7 * a + 6 then (r.1 - 7, r.2) else r
def zH56 (m0 m : wm) (f a : Int) : Prop := ∀ j : Int, 0 ≤ j → (2912 * f ≤ j → j < 728 * a → m.1 56 0 j.toNat = m0.1 56 0 (j + 728).toNat) ∧ (j < 2912 * f ∨ 728 * (a + 1) ≤ j → m.1 56 0 j.toNat = m0.1 56 0 j.toNat)
def zHvs (m0 m : wm) (f a : Int) : Prop := zHv 50 1 0 m0 m f a ∧ zHv 51 1 0 m0 m f a ∧ zHv 52 1 0 m0 m f a ∧ zHv 54 7 (-1) m0 m f a ∧ zHv 57 7 0 m0 m f a ∧ zHv 55 14 0 m0 m f a ∧ zH56 m0 m f a ∧ zLR m = ((zLR m0).filter (zkp (4 * f) 7)).map (zrn f a)
theorem zHv_1 {k : Nat} {m0 m m1 : wm} {f a : Int} (h : zHv k 1 0 m0 m f a) (hs : zSf k 1 0 m m1 (a + 1)) (ha : 4 * f ≤ a) (hf : 0 ≤ f) : zHv k 1 0 m0 m1 f (a + 1) := fun j hj => by
  obtain ⟨s1, s2, s3⟩ := hs j hj
  obtain ⟨h1, h2, h3⟩ := h j hj
  obtain ⟨g1, g2, g3⟩ := h (j + 1) (by omega)
  refine ⟨fun c d => ?_, fun c d => s2 (by omega) (by omega), fun c => by rw [s3 (by omega), h3 (by omega)]⟩
  by_cases hq : j < a
  · rw [s3 (by omega), h1 (by omega) (by omega)]
  · rw [s1 (by omega) (by omega), g3 (by omega)]
theorem zHv_7 {k : Nat} {d : Int} {m0 m m1 : wm} {f a : Int} (h : zHv k 7 d m0 m f a) (hs : zSf k 7 d m m1 (a + 1)) (ha : 4 * f ≤ a) (hf : 0 ≤ f) : zHv k 7 d m0 m1 f (a + 1) := fun j hj => by
  obtain ⟨s1, s2, s3⟩ := hs j hj
  obtain ⟨h1, h2, h3⟩ := h j hj
  obtain ⟨g1, g2, g3⟩ := h (j + 7) (by omega)
  refine ⟨fun c d => ?_, fun c d => s2 (by omega) (by omega), fun c => by rw [s3 (by omega), h3 (by omega)]⟩
  by_cases hq : j < 7 * a
  · rw [s3 (by omega), h1 (by omega) (by omega)]
  · rw [s1 (by omega) (by omega), g3 (by omega)]
theorem zHv_14 {k : Nat} {d : Int} {m0 m m1 : wm} {f a : Int} (h : zHv k 14 d m0 m f a) (hs : zSf k 14 d m m1 (a + 1)) (ha : 4 * f ≤ a) (hf : 0 ≤ f) : zHv k 14 d m0 m1 f (a + 1) := fun j hj => by
  obtain ⟨s1, s2, s3⟩ := hs j hj
  obtain ⟨h1, h2, h3⟩ := h j hj
  obtain ⟨g1, g2, g3⟩ := h (j + 14) (by omega)
  refine ⟨fun c d => ?_, fun c d => s2 (by omega) (by omega), fun c => by rw [s3 (by omega), h3 (by omega)]⟩
  by_cases hq : j < 14 * a
  · rw [s3 (by omega), h1 (by omega) (by omega)]
  · rw [s1 (by omega) (by omega), g3 (by omega)]
theorem zrn_s {f a : Int} {r : Int × Int × Int × Int64} (ha : 4 * f ≤ a) : zsh (a + 1) (zrn f a r) = zrn f (a + 1) r := by
  unfold zsh zrn
  by_cases h1 : 28 * f + 7 ≤ r.1 ∧ r.1 ≤ 7 * a + 6
  · rw [if_pos h1, if_neg (show ¬ (7 * (a + 1) ≤ r.1 - 7 ∧ r.1 - 7 ≤ 7 * (a + 1) + 6) by omega), if_pos (by omega)]
  · rw [if_neg h1]
    by_cases h2 : 7 * (a + 1) ≤ r.1 ∧ r.1 ≤ 7 * (a + 1) + 6
    · rw [if_pos h2, if_pos (by omega)]
    · rw [if_neg h2, if_neg (by omega)]
theorem zHvs_s {m0 m m1 : wm} {f a : Int} (h : zHvs m0 m f a) (hs : zShf m m1 (a + 1)) (ha : 4 * f ≤ a) (hf : 0 ≤ f) : zHvs m0 m1 f (a + 1) := by
  obtain ⟨h0, h1, h2, h3, h4, h5, h6, h7⟩ := h
  obtain ⟨s0, s1, s2, s3, s4, s5, s6, s7⟩ := hs
  refine ⟨zHv_1 h0 s0 ha hf, zHv_1 h1 s1 ha hf, zHv_1 h2 s2 ha hf, zHv_7 h3 s3 ha hf, zHv_7 h4 s4 ha hf, zHv_14 h5 s5 ha hf, fun j hj => ?_, ?_⟩
  · have e1 := s6 j hj
    obtain ⟨g1, g2⟩ := h6 j hj
    obtain ⟨g3, g4⟩ := h6 (j + 728) (by omega)
    refine ⟨fun c d => ?_, fun c => by rw [e1, if_neg (by omega), g2 (by omega)]⟩
    by_cases hq : j < 728 * a
    · rw [e1, if_neg (by omega), g1 (by omega) (by omega)]
    · rw [e1, if_pos (by omega), g4 (by omega)]
  · rw [s7, h7, List.map_map]
    exact List.map_congr_left fun r _ => zrn_s ha
/-- a version more: the least place went, those below it went down, it stands at a -/
def zHr (m0 m1 : wm) (f x a : Int) : Prop := (∀ q : Nat, q < 4 → m0.1 50 0 (4 * f.toNat + q) ≠ x) ∧ (∀ p : Int, 4 * f < p → p ≤ a → m0.1 50 0 p.toNat < x) ∧ (a < 4 * f + 3 → x ≤ m0.1 50 0 (a + 1).toNat) ∧ ∃ m : wm, zHvs m0 m f a ∧ m1 = wuI m 50 0 a.toNat x
theorem zHvs_0 {m0 m : wm} {f : Int} (hf : 0 ≤ f) (he : zEm m0 m (4 * f) 7) (h50 : zZe 50 m0 m (4 * f)) (h51 : zZe 51 m0 m (4 * f)) (h52 : zZe 52 m0 m (4 * f)) (h56 : m.1 56 0 = m0.1 56 0) (hr : zLR m = (zLR m0).filter (zkp (4 * f) 7)) : zHvs m0 m f (4 * f) := by
  have z1 : ∀ k, zZe k m0 m (4 * f) → zHv k 1 0 m0 m f (4 * f) := fun k h j hj => ⟨fun a b => absurd b (by omega), fun a b => by rw [h j hj, if_pos (by omega)], fun a => by rw [h j hj, if_neg (by omega)]⟩
  refine ⟨z1 50 h50, z1 51 h51, z1 52 h52, fun j hj => ⟨fun a b => absurd b (by omega), fun a b => by rw [he.2.1 j hj, if_pos (by omega)], fun a => by rw [he.2.1 j hj, if_neg (by omega)]⟩, fun j hj => ⟨fun a b => absurd b (by omega), fun a b => by rw [he.1 j hj, if_pos (by omega)], fun a => by rw [he.1 j hj, if_neg (by omega)]⟩, fun j hj => ⟨fun a b => absurd b (by omega), fun a b => by rw [he.2.2 j hj, if_pos (by omega)], fun a => by rw [he.2.2 j hj, if_neg (by omega)]⟩, fun j hj => ⟨fun a b => absurd b (by omega), fun _ => by rw [h56]⟩, ?_⟩
  rw [hr]
  have e : ∀ r, zrn f (4 * f) r = r := fun r => by unfold zrn; rw [if_neg (by omega)]
  rw [show zrn f (4 * f) = id from funext e, List.map_id]
theorem zLC_fr {e : Nat → Nat → Nat → Prop} {m m1 : wm} (hf : zfr e m m1) (h : ∀ k j, 22 ≤ k → k ≤ 25 → ¬ e k 0 j) : zLC m1 = zLC m := by
  unfold zLC zCu0
  rw [(hf 22 0 3 (h 22 3 (by decide) (by decide))).1]
  exact List.map_congr_left fun j _ => by rw [(hf 23 0 j (h 23 j (by decide) (by decide))).1, (hf 24 0 j (h 24 j (by decide) (by decide))).1, (hf 25 0 j (h 25 j (by decide) (by decide))).2.1]
theorem zLR_fr {e : Nat → Nat → Nat → Prop} {m m1 : wm} (hf : zfr e m m1) (h0 : ¬ e 34 0 30) (h : ∀ k j, 58 ≤ k → k ≤ 61 → ¬ e k 0 j) : zLR m1 = zLR m := by
  unfold zLR zRu
  rw [(hf 34 0 30 h0).1]
  exact List.map_congr_left fun j _ => by rw [(hf 58 0 j (h 58 j (by decide) (by decide))).1, (hf 59 0 j (h 59 j (by decide) (by decide))).1, (hf 60 0 j (h 60 j (by decide) (by decide))).1, (hf 61 0 j (h 61 j (by decide) (by decide))).2.1]
/-- a packet that can be: the class -/
def zCb (m : wm) (s : Nat) : Prop := zBat m s 1 ≤ 1 ∧ 1 ≤ 256 * zBat m s 2 + zBat m s 3 ∧ zBat m s 4 ≤ 6 ∧ zBat m s 7 ≤ 104 ∧ (zBat m s 5 = 0 ∨ zBat m s 5 = 1 ∧ 64 < zBat m s 7) ∧ zBat m s 6 < zpb (zBat m s 7) (zBat m s 5) ∧ ∃ q : Nat, q < 4 ∧ m.1 26 (4 * (zBat m s 1).toNat + q) 7 ≤ 256 * zBat m s 2 + zBat m s 3
/-- a version of the class as it was -/
def zVq (m0 m1 : wm) (t : Nat) : Prop := (∀ j, m1.1 26 t j = m0.1 26 t j) ∧ (∀ j, m1.1 28 t j = m0.1 28 t j) ∧ (∀ j, m1.1 29 t j = m0.1 29 t j) ∧ ∀ i, i < 7 → m1.1 1 (101 + 7 * t + i) 1 = m0.1 1 (101 + 7 * t + i) 1
/-- a version more: in the least one's place -/
def zLn (m0 m1 : wm) (x y : Int) (r : Nat) : Prop := (∀ q : Nat, q < 4 → m0.1 26 (4 * x.toNat + q) 7 ≠ y) ∧ (∀ q : Nat, q < 4 → m0.1 26 r 7 ≤ m0.1 26 (4 * x.toNat + q) 7) ∧ zLC m1 = (zLC m0).filter (zkc9 (16 * (2 * m0.1 26 r 7 + x)) (16 * (2 * m0.1 26 r 7 + x) + 15)) ∧ m1.1 26 r 7 = y ∧ m1.1 26 r 9 = 0 ∧ m1.1 26 r 10 = 0 ∧ (∀ q, q < 7 → zCl m1 r q) ∧ ∀ t, t < 10 → t ≠ r → zVq m0 m1 t
/-- which pieces: in bounds -/
theorem wand_le {X Y : Int} (hY : 0 ≤ Y ∧ Y ≤ 2147483647) : 0 ≤ wand X Y ∧ wand X Y ≤ Y := by
  have eY : (wi Y).toBitVec.toNat = Y.toNat := by show (BitVec.ofInt 32 Y).toNat = _; rw [BitVec.toNat_ofInt]; omega
  have e : ((wi X).toBitVec &&& (wi Y).toBitVec).toNat ≤ Y.toNat := by
    rw [BitVec.toNat_and, eY]
    exact Nat.and_le_right
  show 0 ≤ ((wi X).toBitVec &&& (wi Y).toBitVec).toInt ∧ ((wi X).toBitVec &&& (wi Y).toBitVec).toInt ≤ Y
  rw [BitVec.toInt_eq_toNat_of_lt (by omega)]
  omega
theorem zmk_rg {v i b j n : Int} (hj : 0 ≤ j) (hn : 1 ≤ n ∧ n ≤ 8) : 1 ≤ zmk v i b j n ∧ zmk v i b j n < ((2 ^ n.toNat : Nat) : Int) := by
  have e1 := wshl_1 (k := n) ⟨by omega, by omega⟩
  have hp : 2 ≤ 2 ^ n.toNat := by
    have := Nat.pow_le_pow_right (n := 2) (by decide) (show 1 ≤ n.toNat by omega)
    omega
  have hp8 : 2 ^ n.toNat ≤ 2 ^ 8 := Nat.pow_le_pow_right (by decide) (by omega)
  unfold zmk
  by_cases h : j < n
  · rw [if_pos h, wshl_1 ⟨hj, by omega⟩]
    have h1 : 2 ^ j.toNat < 2 ^ n.toNat := Nat.pow_lt_pow_right (by decide) (by omega)
    have h2 : 1 ≤ 2 ^ j.toNat := Nat.one_le_two_pow
    omega
  · rw [if_neg h]
    have h3 := wand_le (X := wushr (40503 * (j + 1) * (j + 7) + 9973 * (b + 1) + 977 * i + 31 * v) 8) (Y := wshl 1 n - 1) (by omega)
    split <;> omega
/-- another size is there -/
def zOs (m : wm) (t : Nat) (x : Int) (s : Nat) : Prop := (m.1 28 t (2 * (zBat m s 4).toNat) = 1 ∨ m.1 28 t (2 * (zBat m s 4).toNat + 1) = 1 ∨ 1 ≤ ((zct (zIn m (16 * x + 2 * zBat m s 4) (16 * x + 2 * zBat m s 4 + 1)) (zCu0 m) : Nat) : Int)) ∧ m.1 1 (101 + 7 * t + (zBat m s 4).toNat) 1 ≠ zBat m s 7
/-- an owner that is the greatest of its folder -/
def zIg (m : wm) (o : Int) : Prop := ∃ g, 0 ≤ g ∧ zGt m (o % 2).toNat g ∧ o = 2 * g + o % 2
/-- the least owner of rows that is not, up to a row; -1 for none -/
def zMr (m : wm) (z w : Int) : Prop := (w = -1 ∧ ∀ j : Nat, (j : Int) < z → zIg m (m.1 23 0 j / 16)) ∨ (0 ≤ w ∧ ¬ zIg m w ∧ (∃ j : Nat, (j : Int) < z ∧ m.1 23 0 j / 16 = w) ∧ ∀ j : Nat, (j : Int) < z → zIg m (m.1 23 0 j / 16) ∨ w ≤ m.1 23 0 j / 16)
theorem zMr_0 {m : wm} : zMr m 0 (-1) := Or.inl ⟨rfl, fun j hj => absurd hj (by omega)⟩
theorem zMr_g {m : wm} {z w o : Int} (h : zMr m z w) (hz : 0 ≤ z) (ho : o = m.1 23 0 z.toNat / 16) (hg : zIg m o ∨ (0 ≤ w ∧ w ≤ o)) : zMr m (z + 1) w := by
  rcases h with ⟨h1, h2⟩ | ⟨h1, h2, ⟨j, hj, hj2⟩, h4⟩
  · have hg2 : zIg m o := hg.elim id (fun h => absurd h.1 (by omega))
    refine Or.inl ⟨h1, fun j hj => ?_⟩
    by_cases hjz : (j : Int) < z
    · exact h2 j hjz
    · rw [show j = z.toNat by omega, ← ho]; exact hg2
  · refine Or.inr ⟨h1, h2, ⟨j, by omega, hj2⟩, fun i hi => ?_⟩
    by_cases hiz : (i : Int) < z
    · exact h4 i hiz
    · rw [show i = z.toNat by omega, ← ho]
      exact hg.elim Or.inl (fun h => Or.inr h.2)
theorem zMr_n {m : wm} {z w o : Int} (h : zMr m z w) (hz : 0 ≤ z) (ho : o = m.1 23 0 z.toNat / 16) (h0 : 0 ≤ o) (hg : ¬ zIg m o) (hw : w < 0 ∨ o < w) : zMr m (z + 1) o := by
  refine Or.inr ⟨h0, hg, ⟨z.toNat, by omega, ho.symm⟩, fun i hi => ?_⟩
  by_cases hiz : (i : Int) < z
  · rcases h with ⟨h1, h2⟩ | ⟨h1, h2, _, h4⟩
    · exact Or.inl (h2 i hiz)
    · exact (h4 i hiz).elim Or.inl (fun h => Or.inr (by omega))
  · rw [show i = z.toNat by omega, ← ho]
    exact Or.inr (Int.le_refl _)
theorem zIg_y {m : wm} {o g : Int} (hg : zGt m (o % 2).toNat g) (h0 : 0 ≤ g) (h : o = 2 * g + o % 2) : zIg m o := ⟨g, h0, hg, h⟩
theorem zIg_n {m : wm} {o g : Int} (hg : zGt m (o % 2).toNat g) (h0 : 0 ≤ g) (h : o ≠ 2 * g + o % 2) : ¬ zIg m o := fun ⟨g', h1, h2, h3⟩ => h (by rw [zGt_u hg h2 h0 h1]; exact h3)
/-- a row kept; a block solved: the class -/
def zKr (m0 m : wm) (t : Nat) (x : Int) (s : Nat) : Prop := zAd m0 m (zkK m0 t x s) (zkM m0 s) (zkV m0 s) ∧ m.1 1 (101 + 7 * t + (zBat m0 s 4).toNat) 1 = zBat m0 s 7
def zK0 (m0 m1 : wm) (t : Nat) (x : Int) (s : Nat) : Prop := zKr m0 m1 t x s ∧ ((zct (zIn m1 (zkK m0 t x s) (zkK m0 t x s)) (zCu0 m1) : Nat) : Int) < zkN m0 s ∧ (∀ j : Nat, m1.1 2 (101 + 7 * t + (zBat m0 s 4).toNat) j = m0.1 2 (101 + 7 * t + (zBat m0 s 4).toNat) j) ∧ ∀ j : Nat, m1.1 28 t j = m0.1 28 t j
def zK1 (m0 m1 : wm) (t : Nat) (x : Int) (s : Nat) : Prop := ∃ m : wm, zKr m0 m t x s ∧ zkN m0 s ≤ ((zct (zIn m (zkK m0 t x s) (zkK m0 t x s)) (zCu0 m) : Nat) : Int) ∧ zPp m0 m (101 + 7 * t + (zBat m0 s 4).toNat) (zkK m0 t x s) (zBat m0 s 5) (zBat m0 s 7) (zkN m0 s) ∧ zLC m1 = (zLC m).filter (zkc9 (zkK m0 t x s) (zkK m0 t x s)) ∧ m1.1 1 (101 + 7 * t + (zBat m0 s 4).toNat) 1 = zBat m0 s 7 ∧ (∀ j : Nat, m1.1 2 (101 + 7 * t + (zBat m0 s 4).toNat) j = m.1 2 (101 + 7 * t + (zBat m0 s 4).toNat) j) ∧ m1.1 28 t (2 * (zBat m0 s 4).toNat + (zBat m0 s 5).toNat) = 1 ∧ ∀ j : Nat, j ≠ 2 * (zBat m0 s 4).toNat + (zBat m0 s 5).toNat → m1.1 28 t j = m0.1 28 t j
theorem zPp_0 {e : Nat → Nat → Nat → Prop} {m0 m : wm} {R : Nat} {K b S : Int} (hf : zfr e m0 m) (h : ∀ j, ¬ e 2 R j) : zPp m0 m R K b S 0 := ⟨fun q hq => absurd hq (by omega), fun j _ => (hf 2 R j (h j)).1⟩
