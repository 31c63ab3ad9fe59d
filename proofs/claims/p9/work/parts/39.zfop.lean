/-! The class's folders: rows that move, files put and taken out. -/
def zNx (m : wm) (t : Nat) (x y : Int) : Prop := 1 ≤ y ∧ y ≤ 6 ∧ ∀ q : Nat, (q : Int) < y → 33 ≤ zBat m t (x + (q : Int)) ∧ zBat m t (x + (q : Int)) ≤ 126
theorem zNx_0 {m : wm} {t : Nat} : zNx m t 0 (m.1 1 t 1) ↔ zNm (zBR m t) := by
  have e : ∀ q : Nat, zBat m t (0 + (q : Int)) = (zBR m t).2 q := fun q => by
    rw [Int.zero_add, zBR_at (by omega)]
    rfl
  constructor
  · rintro ⟨h1, h2, h3⟩
    exact ⟨h1, h2, fun q hq => by rw [← e]; exact h3 q hq⟩
  · rintro ⟨h1, h2, h3⟩
    exact ⟨h1, h2, fun q hq => by rw [e]; exact h3 q hq⟩
theorem zBR_cp {m m1 : wm} {e : Nat → Nat → Nat → Prop} {t s n : Nat} (hf : zfr e m m1) (he : ∀ k i j, e k i j → k = 1) (h1 : m1.1 1 t 1 = m.1 1 s 1) (hn : (n : Int) = m1.1 1 t 1) : zBR (wcp m1 2 s 0 2 t 0 n) t = zBR m s := by
  unfold zBR
  refine zcut_eq ?_ fun k hk => ?_
  · show (if 1 = 2 ∧ t = t ∧ 0 ≤ 1 ∧ 1 < 0 + n then m1.1 2 s (0 + (1 - 0)) else m1.1 1 t 1) = _
    rw [if_neg (by omega)]
    exact h1
  · have hk2 : (k : Int) < m1.1 1 t 1 := by
      have hk3 : (k : Int) < (if 1 = 2 ∧ t = t ∧ 0 ≤ 1 ∧ 1 < 0 + n then m1.1 2 s (0 + (1 - 0)) else m1.1 1 t 1) := hk
      rw [if_neg (by omega)] at hk3
      exact hk3
    show (if 2 = 2 ∧ t = t ∧ 0 ≤ k ∧ k < 0 + n then m1.1 2 s (0 + (k - 0)) else m1.1 2 t k) = _
    rw [if_pos ⟨rfl, rfl, Nat.zero_le _, by omega⟩, show 0 + (k - 0) = k by omega]
    exact (hf 2 s k (fun z => absurd (he _ _ _ z) (by decide))).1
/-- rows that go up, that go down -/
def zU1 (m0 m : wm) (t : Nat) (x z : Int) : Prop := ∀ q : Nat, m.2.2 7 t q = m0.2.2 7 t (if x ≤ (q : Int) ∧ (q : Int) < z then q + 1 else q) ∧ m.2.2 8 t q = m0.2.2 8 t (if x ≤ (q : Int) ∧ (q : Int) < z then q + 1 else q)
def zU2 (m0 m : wm) (t : Nat) (x y z : Int) : Prop := ∀ q : Nat, m.2.2 7 t q = m0.2.2 7 t (if x ≤ (q : Int) ∧ (q : Int) < y then q + 1 else if z < (q : Int) ∧ (q : Int) ≤ x then q - 1 else q) ∧ m.2.2 8 t q = m0.2.2 8 t (if x ≤ (q : Int) ∧ (q : Int) < y then q + 1 else if z < (q : Int) ∧ (q : Int) ≤ x then q - 1 else q)
def zMf (m0 m : wm) (t : Nat) (x y : Int) : Prop := ∀ q : Nat, q < 6 → m.2.2 7 t q = m0.2.2 7 t (zRot x y q) ∧ m.2.2 8 t q = m0.2.2 8 t (zRot x y q)
theorem wuR2_7 {m : wm} {t a X Y q : Nat} : (wuR (wuR m 7 t a X) 8 t a Y).2.2 7 t q = if q = a then X else m.2.2 7 t q := by
  show (if 7 = 8 ∧ t = t ∧ q = a then Y else if 7 = 7 ∧ t = t ∧ q = a then X else m.2.2 7 t q) = _
  rw [if_neg (by omega)]
  by_cases h : q = a
  · rw [if_pos ⟨rfl, rfl, h⟩, if_pos h]
  · rw [if_neg (by omega), if_neg h]
theorem wuR2_8 {m : wm} {t a X Y q : Nat} : (wuR (wuR m 7 t a X) 8 t a Y).2.2 8 t q = if q = a then Y else m.2.2 8 t q := by
  show (if 8 = 8 ∧ t = t ∧ q = a then Y else if 8 = 7 ∧ t = t ∧ q = a then X else m.2.2 8 t q) = _
  by_cases h : q = a
  · rw [if_pos ⟨rfl, rfl, h⟩, if_pos h]
  · rw [if_neg (by omega), if_neg (by omega), if_neg h]
theorem zU1_0 {m : wm} {t : Nat} {x : Int} : zU1 m m t x x := fun q => by rw [if_neg (by omega)]; exact ⟨rfl, rfl⟩
theorem zU1_s {m0 m : wm} {t X Y : Nat} {x z : Int} (h : zU1 m0 m t x z) (hx : 0 ≤ x) (hz : x ≤ z) (hX : X = m.2.2 7 t (z + 1).toNat) (hY : Y = m.2.2 8 t (z + 1).toNat) : zU1 m0 (wuR (wuR m 7 t z.toNat X) 8 t z.toNat Y) t x (z + 1) := fun q => by
  rw [wuR2_7, wuR2_8, hX, hY]
  by_cases hq : q = z.toNat
  · rw [if_pos hq, if_pos hq, (h (z + 1).toNat).1, (h (z + 1).toNat).2, if_neg (by omega), if_pos (by omega), show (z + 1).toNat = q + 1 by omega]
    exact ⟨rfl, rfl⟩
  · rw [if_neg hq, if_neg hq, (h q).1, (h q).2]
    by_cases hl : x ≤ (q : Int) ∧ (q : Int) < z
    · rw [if_pos hl, if_pos (by omega)]
      exact ⟨rfl, rfl⟩
    · rw [if_neg hl, if_neg (by omega)]
      exact ⟨rfl, rfl⟩
theorem zU2_0 {m0 m : wm} {t : Nat} {x y z : Int} (h : zU1 m0 m t x z) (hz : y ≤ z) (h2 : z ≤ y ∨ z = x) : zU2 m0 m t x y x := fun q => by
  rw [(h q).1, (h q).2]
  by_cases hl : x ≤ (q : Int) ∧ (q : Int) < z
  · rw [if_pos hl, if_pos (by omega)]
    exact ⟨rfl, rfl⟩
  · rw [if_neg hl, if_neg (by omega), if_neg (by omega)]
    exact ⟨rfl, rfl⟩
theorem zU2_s {m0 m : wm} {t X Y : Nat} {x y z : Int} (h : zU2 m0 m t x y z) (hy : 0 ≤ y) (hz : y < z) (hz2 : z ≤ x) (hX : X = m.2.2 7 t (z - 1).toNat) (hY : Y = m.2.2 8 t (z - 1).toNat) : zU2 m0 (wuR (wuR m 7 t z.toNat X) 8 t z.toNat Y) t x y (z - 1) := fun q => by
  rw [wuR2_7, wuR2_8, hX, hY]
  by_cases hq : q = z.toNat
  · rw [if_pos hq, if_pos hq, (h (z - 1).toNat).1, (h (z - 1).toNat).2, if_neg (by omega), if_neg (by omega), if_neg (by omega), if_pos (by omega), show (z - 1).toNat = q - 1 by omega]
    exact ⟨rfl, rfl⟩
  · rw [if_neg hq, if_neg hq, (h q).1, (h q).2]
    by_cases hu : x ≤ (q : Int) ∧ (q : Int) < y
    · omega
    · rw [if_neg hu, if_neg hu]
      by_cases hl : z < (q : Int) ∧ (q : Int) ≤ x
      · rw [if_pos hl, if_pos (by omega)]
        exact ⟨rfl, rfl⟩
      · rw [if_neg hl, if_neg (by omega)]
        exact ⟨rfl, rfl⟩
theorem zU2_e {m0 m : wm} {t X Y : Nat} {x y z : Int} (h : zU2 m0 m t x y z) (hx : 0 ≤ x) (hy : 0 ≤ y) (hz : z ≤ y) (hz2 : z = y ∨ z = x) (hX : X = m0.2.2 7 t x.toNat) (hY : Y = m0.2.2 8 t x.toNat) : zMf m0 (wuR (wuR m 7 t y.toNat X) 8 t y.toNat Y) t x y := fun q _ => by
  rw [wuR2_7, wuR2_8, hX, hY]
  by_cases hq : q = y.toNat
  · rw [if_pos hq, if_pos hq, zRot_to (by omega)]
    exact ⟨rfl, rfl⟩
  · rw [if_neg hq, if_neg hq, (h q).1, (h q).2]
    by_cases hu : x ≤ (q : Int) ∧ (q : Int) < y
    · rw [if_pos hu, zRot_up hu.1 hu.2]
      exact ⟨rfl, rfl⟩
    · rw [if_neg hu]
      by_cases hl : y < (q : Int) ∧ (q : Int) ≤ x
      · rw [if_pos (by omega), zRot_dn hl.1 hl.2]
        exact ⟨rfl, rfl⟩
      · rw [if_neg (by omega), zRot_ot hx (by omega)]
        exact ⟨rfl, rfl⟩
theorem zRot_lt {x y : Int} {q : Nat} (hx : 0 ≤ x) (hx5 : x ≤ 5) (hy : 0 ≤ y) (hy5 : y ≤ 5) (hq : q < 6) : zRot x y q < 6 := by
  have := zRot_c x y q hx hy
  omega
theorem zDi_mv {m0 m1 : wm} {e : Nat → Nat → Nat → Prop} {t : Nat} {x y : Int} (hD : zDi m0) (hM : zMf m0 m1 t x y) (hf : zfr e m0 m1) (he : ∀ k i j, e k i j → i = t) (hx : 0 ≤ x ∧ x ≤ 5) (hy : 0 ≤ y ∧ y ≤ 5) : zDi m1 := fun t' ht a b ha hb => by
  by_cases h : t' = t
  · subst h
    have ca := zRot_c x y a hx.1 hy.1
    have cb := zRot_c x y b hx.1 hy.1
    have la := zRot_lt hx.1 hx.2 hy.1 hy.2 ha
    have lb := zRot_lt hx.1 hx.2 hy.1 hy.2 hb
    have hd := hD t' ht _ _ la lb
    rw [(hM a ha).1, (hM b hb).1, (hM a ha).2, (hM b hb).2]
    exact ⟨fun z => by have := hd.1 z; omega, fun z => by have := hd.2 z; omega⟩
  · rw [(hf 7 t' a (fun z => h (he _ _ _ z))).2.2, (hf 7 t' b (fun z => h (he _ _ _ z))).2.2, (hf 8 t' a (fun z => h (he _ _ _ z))).2.2, (hf 8 t' b (fun z => h (he _ _ _ z))).2.2]
    exact hD t' ht a b ha hb
/-- a row's bytes over a frame that may touch one row alone -/
theorem zBR_o {m m1 : wm} {e : Nat → Nat → Nat → Prop} {R t : Nat} (hf : zfr e m m1) (he : ∀ k i j, e k i j → k = 1 ∧ i = R ∨ k = 2 ∧ i = R ∨ 2 < k) (h : t ≠ R) : zBR m1 t = zBR m t :=
  zBR_fr hf (fun z => by have := he _ _ _ z; omega) (fun j z => by have := he _ _ _ z; omega)
theorem zR_o {m m1 : wm} {e : Nat → Nat → Nat → Prop} {K t x : Nat} (hf : zfr e m m1) (he : ∀ k i j, e k i j → k < 7) (hK : 7 ≤ K) : m1.2.2 K t x = m.2.2 K t x := (hf K t x (fun z => by have := he _ _ _ z; omega)).2.2
/-- the class's put where the name is there -/
theorem zPut_c1 {c : Int} {m0 m1 : wm} {e : Nat → Nat → Nat → Prop} {t s u : Nat} {k n : Int} (ht : t < 2) (hG : zB c m0) (hD : zDi m0) (hP : zPl (fun x => zBR m0 (m0.2.2 7 t x)) n (zBR m0 s) k) (hA : zAt (fun x => zBR m0 (m0.2.2 7 t x)) n (zBR m0 s) k) (hn : n ≤ 6) (hf : zfr e m0 m1) (he : ∀ k' i j, e k' i j → (k' = 1 ∨ k' = 2) ∧ i = m0.2.2 8 t k.toNat) (hb : zBR m1 (m0.2.2 8 t k.toNat) = zBR m0 u) : zPut (zCF m0 t) n (zBR m0 s) (zBR m0 u) (zCF m1 t) n n ∧ zDi m1 := by
  have hk := hA.1
  have hk0 := hP.1
  refine ⟨⟨k, hP, Or.inl ⟨hA, rfl, rfl, fun x hx => ?_⟩⟩, ?_⟩
  · have r7 : m1.2.2 7 t x = m0.2.2 7 t x := zR_o hf (fun k' i j z => by have := he _ _ _ z; omega) (by omega)
    have r8 : m1.2.2 8 t x = m0.2.2 8 t x := zR_o hf (fun k' i j z => by have := he _ _ _ z; omega) (by omega)
    have bx := hG.2 t x ht (by omega)
    have bk := hG.2 t k.toNat ht (by omega)
    have en : zBR m1 (m0.2.2 7 t x) = zBR m0 (m0.2.2 7 t x) := zBR_o (R := m0.2.2 8 t k.toNat) hf (fun k' i j z => by have := he _ _ _ z; omega) (by omega)
    unfold zCF
    rw [r7, r8, en]
    by_cases hq : (x : Int) = k
    · rw [if_pos hq, show x = k.toNat by omega, hb]
      have := zCm_0 hA.2
      rw [show zBR m0 (m0.2.2 7 t k.toNat) = zBR m0 s from this]
    · rw [if_neg hq, zBR_o (R := m0.2.2 8 t k.toNat) hf (fun k' i j z => by have := he _ _ _ z; omega) (fun z => hq (by have := (hD t ht x k.toNat (by omega) (by omega)).2 z; omega))]
  · exact zDi_fr hD hf (fun t' j z => by have := he _ _ _ z; omega) (fun t' j z => by have := he _ _ _ z; omega)
/-- where it isn't, and there is a place -/
theorem zPut_c2 {c : Int} {m0 m1 m2 m3 m4 : wm} {e1 e2 e3 e4 : Nat → Nat → Nat → Prop} {t s u : Nat} {k n n' : Int} (ht : t < 2) (hs : s < 35) (hu : u < 35) (hG : zB c m0) (hD : zDi m0) (hP : zPl (fun x => zBR m0 (m0.2.2 7 t x)) n (zBR m0 s) k) (hA : ¬ zAt (fun x => zBR m0 (m0.2.2 7 t x)) n (zBR m0 s) k) (hn : n < 6) (hn' : n' = n + 1)
    (hM : zMf m0 m1 t n k) (f1 : zfr e1 m0 m1) (h1 : ∀ k' i j, e1 k' i j → (k' = 7 ∨ k' = 8) ∧ i = t) (f2 : zfr e2 m1 m2) (h2 : ∀ k' i j, e2 k' i j → k' = 6) (f3 : zfr e3 m2 m3) (h3 : ∀ k' i j, e3 k' i j → (k' = 1 ∨ k' = 2) ∧ i = m2.2.2 7 t k.toNat) (b3 : zBR m3 (m2.2.2 7 t k.toNat) = zBR m2 s) (f4 : zfr e4 m3 m4) (h4 : ∀ k' i j, e4 k' i j → (k' = 1 ∨ k' = 2) ∧ i = m3.2.2 8 t k.toNat) (b4 : zBR m4 (m3.2.2 8 t k.toNat) = zBR m3 u) : zPut (zCF m0 t) n (zBR m0 s) (zBR m0 u) (zCF m4 t) n' (n + 1) ∧ zDi m4 := by
  have hk0 := hP.1
  have hk1 := hP.2.1
  have D1 : zDi m1 := zDi_mv hD hM f1 (fun k' i j z => (h1 _ _ _ z).2) ⟨by omega, by omega⟩ ⟨by omega, by omega⟩
  have r27 : ∀ t' x, m2.2.2 7 t' x = m1.2.2 7 t' x := fun t' x => zR_o f2 (fun k' i j z => by have := h2 _ _ _ z; omega) (by omega)
  have r28 : ∀ t' x, m2.2.2 8 t' x = m1.2.2 8 t' x := fun t' x => zR_o f2 (fun k' i j z => by have := h2 _ _ _ z; omega) (by omega)
  have r37 : ∀ t' x, m3.2.2 7 t' x = m2.2.2 7 t' x := fun t' x => zR_o f3 (fun k' i j z => by have := h3 _ _ _ z; omega) (by omega)
  have r38 : ∀ t' x, m3.2.2 8 t' x = m2.2.2 8 t' x := fun t' x => zR_o f3 (fun k' i j z => by have := h3 _ _ _ z; omega) (by omega)
  have r47 : ∀ t' x, m4.2.2 7 t' x = m3.2.2 7 t' x := fun t' x => zR_o f4 (fun k' i j z => by have := h4 _ _ _ z; omega) (by omega)
  have r48 : ∀ t' x, m4.2.2 8 t' x = m3.2.2 8 t' x := fun t' x => zR_o f4 (fun k' i j z => by have := h4 _ _ _ z; omega) (by omega)
  have e1' : ∀ R, zBR m1 R = zBR m0 R := fun R => zBR_o (R := R + 1) f1 (fun k' i j z => by have := h1 _ _ _ z; omega) (by omega)
  have e2' : ∀ R, zBR m2 R = zBR m0 R := fun R => (zBR_o (R := R + 1) f2 (fun k' i j z => by have := h2 _ _ _ z; omega) (by omega)).trans (e1' R)
  have q7 : ∀ x, x < 6 → m2.2.2 7 t x = m0.2.2 7 t (zRot n k x) := fun x hx => (r27 t x).trans (hM x hx).1
  have q8 : ∀ x, x < 6 → m3.2.2 8 t x = m0.2.2 8 t (zRot n k x) := fun x hx => ((r38 t x).trans (r28 t x)).trans (hM x hx).2
  have bd : ∀ x, x < 6 → 35 + 6 * t ≤ m2.2.2 7 t x ∧ m2.2.2 7 t x < 41 + 6 * t ∧ 47 + 6 * t ≤ m3.2.2 8 t x ∧ m3.2.2 8 t x < 53 + 6 * t := fun x hx => by
    rw [q7 x hx, q8 x hx]
    exact hG.2 t _ ht (zRot_lt (by omega) (by omega) (by omega) (by omega) hx)
  have bk := bd k.toNat (by omega)
  have o3 : ∀ R, R ≠ m2.2.2 7 t k.toNat → zBR m3 R = zBR m0 R := fun R hR => (zBR_o f3 (fun k' i j z => by have := h3 _ _ _ z; omega) hR).trans (e2' R)
  have o4 : ∀ R, R ≠ m3.2.2 8 t k.toNat → zBR m4 R = zBR m3 R := fun R hR => zBR_o f4 (fun k' i j z => by have := h4 _ _ _ z; omega) hR
  refine ⟨⟨k, hP, Or.inr (Or.inr ⟨hA, hn, rfl, hn', fun x hx => ?_⟩)⟩, ?_⟩
  · have hx6 : x < 6 := by omega
    have bx := bd x hx6
    have g7 : m4.2.2 7 t x = m2.2.2 7 t x := (r47 t x).trans (r37 t x)
    have g8 : m4.2.2 8 t x = m3.2.2 8 t x := r48 t x
    unfold zCF
    rw [g7, g8, o4 (m2.2.2 7 t x) (by omega)]
    by_cases hq : (x : Int) = k
    · rw [if_neg (by omega), if_pos hq, show x = k.toNat by omega, b3, b4, e2', o3 u (by omega)]
    · have i7 : m2.2.2 7 t x ≠ m2.2.2 7 t k.toNat := fun z => hq (by rw [r27, r27] at z; have := (D1 t ht x k.toNat hx6 (by omega)).1 z; omega)
      have i8 : m3.2.2 8 t x ≠ m3.2.2 8 t k.toNat := fun z => hq (by rw [r38, r28, r38, r28] at z; have := (D1 t ht x k.toNat hx6 (by omega)).2 z; omega)
      rw [o3 _ i7, o4 _ i8, o3 _ (by omega), q7 x hx6, q8 x hx6]
      by_cases hl : (x : Int) < k
      · rw [if_pos hl, zRot_ot (by omega) (by omega)]
      · rw [if_neg hl, if_neg hq, zRot_dn (by omega) (by omega)]
  · intro t' ht' a b ha hb
    rw [r47, r47, r48, r48, r37, r37, r38, r38, r27, r27, r28, r28]
    exact D1 t' ht' a b ha hb
/-- taken out -/
theorem zTake_c {m0 m1 m2 : wm} {e1 e2 : Nat → Nat → Nat → Prop} {t s : Nat} {k n n' : Int} (hD : zDi m0) (hP : zPl (fun x => zBR m0 (m0.2.2 7 t x)) n (zBR m0 s) k) (hA : zAt (fun x => zBR m0 (m0.2.2 7 t x)) n (zBR m0 s) k) (hn : n ≤ 6) (hn' : n' = n - 1) (hM : zMf m0 m1 t k (n - 1)) (f1 : zfr e1 m0 m1) (h1 : ∀ k' i j, e1 k' i j → (k' = 7 ∨ k' = 8) ∧ i = t) (f2 : zfr e2 m1 m2) (h2 : ∀ k' i j, e2 k' i j → k' = 6) : zTake (zCF m0 t) n (zBR m0 s) (zCF m2 t) n' 1 ∧ zDi m2 := by
  have hk0 := hP.1
  have hk1 := hA.1
  have D1 : zDi m1 := zDi_mv hD hM f1 (fun k' i j z => (h1 _ _ _ z).2) ⟨by omega, by omega⟩ ⟨by omega, by omega⟩
  have r27 : ∀ t' x, m2.2.2 7 t' x = m1.2.2 7 t' x := fun t' x => zR_o f2 (fun k' i j z => by have := h2 _ _ _ z; omega) (by omega)
  have r28 : ∀ t' x, m2.2.2 8 t' x = m1.2.2 8 t' x := fun t' x => zR_o f2 (fun k' i j z => by have := h2 _ _ _ z; omega) (by omega)
  have e2' : ∀ R, zBR m2 R = zBR m0 R := fun R => (zBR_o (R := R + 1) f2 (fun k' i j z => by have := h2 _ _ _ z; omega) (by omega)).trans (zBR_o (R := R + 1) f1 (fun k' i j z => by have := h1 _ _ _ z; omega) (by omega))
  refine ⟨⟨k, hP, Or.inl ⟨hA, rfl, hn', fun x hx => ?_⟩⟩, ?_⟩
  · unfold zCF
    rw [r27, r28, (hM x (by omega)).1, (hM x (by omega)).2, e2', e2']
    by_cases hl : (x : Int) < k
    · rw [if_pos hl, zRot_ot (by omega) (by omega)]
    · rw [if_neg hl, zRot_up (by omega) (by omega)]
  · intro t' ht' a b ha hb
    rw [r27, r27, r28, r28]
    exact D1 t' ht' a b ha hb
theorem zlim_n {t R : Nat} (ht : t < 2) (h : 35 + 6 * t ≤ R ∧ R < 41 + 6 * t) : zlim R = 6 := by
  unfold zlim
  rw [if_neg (by omega), if_neg (by omega), if_neg (by omega), if_neg (by omega), if_pos (by omega)]
theorem zlim_d {t R : Nat} (ht : t < 2) (h : 47 + 6 * t ≤ R ∧ R < 53 + 6 * t) : zlim R = 96 := by
  unfold zlim
  rw [if_neg (by omega), if_neg (by omega), if_neg (by omega), if_neg (by omega), if_neg (by omega), if_pos (by omega)]
theorem zPut_cg {F F' F'' : Nat → zRc × zRc} {n n' r : Int} {a d : zRc} (h : zPut F n a d F' n' r) (he : ∀ x : Nat, x < 6 → F'' x = F' x) (hn : n ≤ 6) : zPut F n a d F'' n' r := by
  obtain ⟨k, h1, h2⟩ := h
  refine ⟨k, h1, ?_⟩
  rcases h2 with ⟨a1, a2, a3, a4⟩ | ⟨a1, a2, a3, a4, a5⟩ | ⟨a1, a2, a3, a4, a5⟩
  · exact Or.inl ⟨a1, a2, a3, fun x hx => (he x (by omega)).trans (a4 x hx)⟩
  · exact Or.inr (Or.inl ⟨a1, a2, a3, a4, fun x hx => (he x (by omega)).trans (a5 x hx)⟩)
  · exact Or.inr (Or.inr ⟨a1, a2, a3, a4, fun x hx => (he x (by omega)).trans (a5 x hx)⟩)
theorem zTake_cg {F F' F'' : Nat → zRc × zRc} {n n' r : Int} {a : zRc} (h : zTake F n a F' n' r) (he : ∀ x : Nat, x < 6 → F'' x = F' x) (hn : n ≤ 6) : zTake F n a F'' n' r := by
  obtain ⟨k, h1, h2⟩ := h
  refine ⟨k, h1, ?_⟩
  rcases h2 with ⟨a1, a2, a3, a4⟩ | ⟨a1, a2, a3, a4⟩
  · exact Or.inl ⟨a1, a2, a3, fun x hx => (he x (by omega)).trans (a4 x hx)⟩
  · exact Or.inr ⟨a1, a2, a3, fun x hx => (he x (by omega)).trans (a4 x hx)⟩
/-- what is at hand is cleared: the folders stand -/
theorem zCl_F {c : Int} {m m1 : wm} {e : Nat → Nat → Nat → Prop} (hG : zB c m) (hf : zfr e m m1) (he : ∀ k i j, e k i j → k = 1 ∧ i < 2 ∧ j = 1) : (∀ t, t < 2 → ∀ x, x < 6 → zCF m1 t x = zCF m t x) ∧ (zDi m → zDi m1) ∧ ∀ t j, m1.1 6 t j = m.1 6 t j := by
  refine ⟨fun t ht x hx => ?_, fun hD => ?_, fun t j => ?_⟩
  · exact zCF_fr hG ht hx hf (fun z => by have := he _ _ _ z; omega) (fun z => by have := he _ _ _ z; omega) (fun i hi z => by have := he _ _ _ z; omega) (fun i j hi z => by have := he _ _ _ z; omega)
  · exact zDi_fr hD hf (fun t j z => by have := he _ _ _ z; omega) (fun t j z => by have := he _ _ _ z; omega)
  · exact (hf 6 t j (fun z => by have := he _ _ _ z; omega)).1
/-- what the law holds of them -/
def zE5 (m : wm) : Prop := zBR m 0 = zNH m ∧ zBR m 1 = zDH m
def zFS (m : wm) : Prop := ∀ t, t < 2 → m.1 6 t 3 = m.1 37 0 t ∧ ∀ x : Nat, (x : Int) < m.1 6 t 3 → zCF m t x = zFR m (6 * t + x)
section ZFL
variable {e : Nat → Nat → Nat → Prop} {m m1 : wm} {c : Int}
theorem zE5_fr (h : zE5 m) (hf : zfr e m m1) (a1 : ¬ e 1 0 1) (a2 : ¬ e 1 1 1) (a3 : ∀ j, ¬ e 2 0 j) (a4 : ∀ j, ¬ e 2 1 j) (a5 : ¬ e 34 0 1) (a6 : ¬ e 34 0 2) (a7 : ∀ j, ¬ e 35 0 j) (a8 : ∀ j, ¬ e 36 0 j) : zE5 m1 := by
  unfold zE5
  rw [zBR_fr hf a1 a3, zBR_fr hf a2 a4, zNH_fr hf a5 a7, zDH_fr hf a6 a8]
  exact h
theorem zFR_a {q : Nat} (hf : zfr e m m1) (a : ∀ k j, 38 ≤ k → k ≤ 41 → ¬ e k 0 j) : zFR m1 q = zFR m q := by
  unfold zFR zNR zDR
  rw [(hf 38 0 q (a _ _ (by decide) (by decide))).1, (hf 40 0 q (a _ _ (by decide) (by decide))).1]
  congr 1
  · exact zcut_eq rfl fun k hk => (hf 39 0 _ (a _ _ (by decide) (by decide))).1
  · exact zcut_eq rfl fun k hk => (hf 41 0 _ (a _ _ (by decide) (by decide))).1
theorem zFS_fr (h : zFS m) (hG : zB c m) (hf : zfr e m m1) (a1 : ∀ k t j, k = 7 ∨ k = 8 → ¬ e k t j) (a2 : ∀ i, 35 ≤ i → i < 59 → ¬ e 1 i 1) (a3 : ∀ i j, 35 ≤ i → i < 59 → ¬ e 2 i j) (a4 : ∀ t, ¬ e 6 t 3) (a5 : ∀ t, ¬ e 37 0 t) (a6 : ∀ k j, 38 ≤ k → k ≤ 41 → ¬ e k 0 j) : zFS m1 := fun t ht => by
  have b : 0 ≤ m.1 6 t 3 ∧ m.1 6 t 3 ≤ 6 := hG.1 6 _ rfl t 3
  rw [(hf 6 t 3 (a4 t)).1, (hf 37 0 t (a5 t)).1]
  refine ⟨(h t ht).1, fun x hx => ?_⟩
  rw [zCF_fr hG ht (by omega) hf (a1 7 t x (Or.inl rfl)) (a1 8 t x (Or.inr rfl)) (fun i hi => a2 i (by omega) (by omega)) (fun i j hi => a3 i j (by omega) (by omega)), zFR_a hf a6]
  exact (h t ht).2 x hx
theorem zDI_fr (h : zDi m) (hf : zfr e m m1) (a1 : ∀ k t j, k = 7 ∨ k = 8 → ¬ e k t j) : zDi m1 := zDi_fr h hf (fun t j => a1 7 t j (Or.inl rfl)) (fun t j => a1 8 t j (Or.inr rfl))
end ZFL
/-! Both sides of a call. -/
theorem zE5_f1 {m0 ma mb : wm} {x : Int} {v : Int64} (h : zE5 m0) (hb : 0 ≤ m0.1 1 1 1) (a1 : ma.1 1 1 1 = m0.1 1 1 1 + x) (a2 : zApd (ma.1 2 1) (m0.1 2 1) (m0.1 1 1 1) x v) (b1 : mb.1 34 0 2 = m0.1 34 0 2 + x) (b2 : zApd (mb.1 36 0) (m0.1 36 0) (m0.1 34 0 2) x v) (c1 : zBR mb 1 = zBR ma 1) (c2 : zBR mb 0 = zBR m0 0) (c3 : zNH mb = zNH m0) : zE5 mb := by
  refine ⟨by rw [c2, c3]; exact h.1, ?_⟩
  rw [c1]
  unfold zBR zDH
  rw [a1, b1]
  exact zApd_cut hb a2 b2 h.2
theorem zE5_f0 {m0 ma mb : wm} {x : Int} {v : Int64} (h : zE5 m0) (hb : 0 ≤ m0.1 1 0 1) (a1 : ma.1 1 0 1 = m0.1 1 0 1 + x) (a2 : zApd (ma.1 2 0) (m0.1 2 0) (m0.1 1 0 1) x v) (b1 : mb.1 34 0 1 = m0.1 34 0 1 + x) (b2 : zApd (mb.1 35 0) (m0.1 35 0) (m0.1 34 0 1) x v) (c1 : zBR mb 0 = zBR ma 0) (c2 : zBR mb 1 = zBR m0 1) (c3 : zDH mb = zDH m0) : zE5 mb := by
  refine ⟨?_, by rw [c2, c3]; exact h.2⟩
  rw [c1]
  unfold zBR zNH
  rw [a1, b1]
  exact zApd_cut hb a2 b2 h.1
theorem zE5_n {m : wm} (h1 : m.1 1 0 1 = 0) (h2 : m.1 34 0 1 = 0) : zBR m 0 = zNH m := zcut_eq (h1.trans h2.symm) fun k hk => absurd hk (by omega)
theorem zE5_d {m : wm} (h1 : m.1 1 1 1 = 0) (h2 : m.1 34 0 2 = 0) : zBR m 1 = zDH m := zcut_eq (h1.trans h2.symm) fun k hk => absurd hk (by omega)
theorem zFS_s {m0 mb : wm} (hS : zFS m0) (a : ∀ t, t < 2 → mb.1 6 t 3 = m0.1 6 t 3 ∧ mb.1 37 0 t = m0.1 37 0 t) (b : ∀ t, t < 2 → ∀ q, q < 6 → zCF mb t q = zCF m0 t q) (d : ∀ q, zFR mb q = zFR m0 q) (h6 : ∀ t, m0.1 6 t 3 ≤ 6) : zFS mb := fun t ht => by
  rw [(a t ht).1, (a t ht).2]
  refine ⟨(hS t ht).1, fun x hx => ?_⟩
  have h := h6 t
  rw [b t ht x (by omega), d]
  exact (hS t ht).2 x hx
theorem zFS_w {m0 ma mb : wm} {x : Int} (hx : 0 ≤ x ∧ x ≤ 1) (hS : zFS m0) (q1 : ma.1 6 x.toNat 3 = mb.1 37 0 x.toNat) (q2 : ∀ q : Nat, (q : Int) < ma.1 6 x.toNat 3 → zCF ma x.toNat q = zFR mb (6 * x.toNat + q)) (r1 : ∀ t, t < 2 → mb.1 6 t 3 = ma.1 6 t 3) (r2 : ∀ t, t < 2 → ∀ q, q < 6 → zCF mb t q = zCF ma t q) (o1 : ∀ t, t < 2 → t ≠ x.toNat → ma.1 6 t 3 = m0.1 6 t 3 ∧ mb.1 37 0 t = m0.1 37 0 t) (o2 : ∀ t, t < 2 → t ≠ x.toNat → ∀ q, q < 6 → zCF ma t q = zCF m0 t q ∧ zFR mb (6 * t + q) = zFR m0 (6 * t + q)) (h6 : ∀ t, ma.1 6 t 3 ≤ 6) : zFS mb := fun t ht => by
  have h := h6 t
  rw [r1 t ht]
  by_cases hq : t = x.toNat
  · subst hq
    refine ⟨q1, fun q hq => ?_⟩
    rw [r2 _ ht q (by omega)]
    exact q2 q hq
  · refine ⟨by rw [(o1 t ht hq).1, (o1 t ht hq).2]; exact (hS t ht).1, fun q hq2 => ?_⟩
    rw [r2 t ht q (by omega), (o2 t ht hq q (by omega)).1, (o2 t ht hq q (by omega)).2]
    exact (hS t ht).2 q (by rw [← (o1 t ht hq).1]; exact hq2)
theorem zWr {m0 ma mb : wm} {x y r : Int} (h5 : zE5 m0) (hS : zFS m0) (hx : 0 ≤ x ∧ x ≤ 1) (hc : zPut (zCF m0 x.toNat) (m0.1 6 x.toNat 3) (zBR m0 0) (zBR m0 1) (zCF ma x.toNat) (ma.1 6 x.toNat 3) y) (na : zNH ma = zNH m0) (da : zDH ma = zDH m0) (fa : ∀ q, zFR ma q = zFR m0 q) (va : ∀ t, ma.1 37 0 t = m0.1 37 0 t) (hr : zPut (fun q => zFR ma (6 * x.toNat + q)) (ma.1 37 0 x.toNat) (zNH ma) (zDH ma) (fun q => zFR mb (6 * x.toNat + q)) (mb.1 37 0 x.toNat) r) : y = r ∧ ma.1 6 x.toNat 3 = mb.1 37 0 x.toNat ∧ ∀ q : Nat, (q : Int) < ma.1 6 x.toNat 3 → zCF ma x.toNat q = zFR mb (6 * x.toNat + q) := by
  have hs := hS x.toNat (by omega)
  rw [show (fun q => zFR ma (6 * x.toNat + q)) = (fun q => zFR m0 (6 * x.toNat + q)) from funext fun q => fa _, va, na, da, ← h5.1, ← h5.2, ← hs.1] at hr
  exact zPut_u hs.2 hc hr
theorem zLw {c : Int} {m0 ma mb : wm} {x y r : Int} (h5 : zE5 m0) (hS : zFS m0) (hN : zNm (zBR m0 0)) (hx : 0 ≤ x ∧ x ≤ 1) (hc : zPut (zCF m0 x.toNat) (m0.1 6 x.toNat 3) (zBR m0 0) (zBR m0 1) (zCF ma x.toNat) (ma.1 6 x.toNat 3) y) (na : zNH ma = zNH m0) (da : zDH ma = zDH m0) (fa : ∀ q, zFR ma q = zFR m0 q) (va : ∀ t, ma.1 37 0 t = m0.1 37 0 t) (hr : mb.1 34 0 1 = 0 ∧ mb.1 34 0 2 = 0 ∧ ((mb.1 34 0 0 = 1 ∧ (x < 0 ∨ 1 < x ∨ ¬ zNm (zNH ma)) ∧ mb.1 37 0 = ma.1 37 0 ∧ ∀ q, zFR mb q = zFR ma q) ∨ (0 ≤ x ∧ x ≤ 1 ∧ zNm (zNH ma) ∧ (mb.1 34 0 0 = 2 ∧ zPut (fun q => zFR ma (6 * x.toNat + q)) (ma.1 37 0 x.toNat) (zNH ma) (zDH ma) (fun q => zFR mb (6 * x.toNat + q)) (mb.1 37 0 x.toNat) 0 ∨ mb.1 34 0 0 = 0 ∧ zPut (fun q => zFR ma (6 * x.toNat + q)) (ma.1 37 0 x.toNat) (zNH ma) (zDH ma) (fun q => zFR mb (6 * x.toNat + q)) (mb.1 37 0 x.toNat) r ∧ 1 ≤ r)))) : (mb.1 34 0 0 = 2 ∧ y = 0 ∨ mb.1 34 0 0 = 0 ∧ r = y ∧ 1 ≤ r) ∧ ma.1 6 x.toNat 3 = mb.1 37 0 x.toNat ∧ ∀ q : Nat, (q : Int) < ma.1 6 x.toNat 3 → zCF ma x.toNat q = zFR mb (6 * x.toNat + q) := by
  obtain ⟨_, _, hc3⟩ := hr
  rcases hc3 with ⟨_, hw, _⟩ | ⟨_, _, _, hw⟩
  · rcases hw with hw | hw | hw
    · omega
    · omega
    · exact absurd (by rw [na, ← h5.1]; exact hN) hw
  · rcases hw with ⟨w1, w2⟩ | ⟨w1, w2, w3⟩
    · have z := zWr h5 hS hx hc na da fa va w2
      exact ⟨Or.inl ⟨w1, z.1⟩, z.2⟩
    · have z := zWr h5 hS hx hc na da fa va w2
      exact ⟨Or.inr ⟨w1, z.1.symm, w3⟩, z.2⟩
theorem zLw1 {m0 ma mb : wm} {x : Int} (h5 : zE5 m0) (hN : x < 0 ∨ 1 < x ∨ ¬ zNm (zBR m0 0)) (na : zNH ma = zNH m0) {P : Prop} (hr : mb.1 34 0 1 = 0 ∧ mb.1 34 0 2 = 0 ∧ ((mb.1 34 0 0 = 1 ∧ (x < 0 ∨ 1 < x ∨ ¬ zNm (zNH ma)) ∧ mb.1 37 0 = ma.1 37 0 ∧ ∀ q, zFR mb q = zFR ma q) ∨ (0 ≤ x ∧ x ≤ 1 ∧ zNm (zNH ma) ∧ P))) : mb.1 34 0 0 = 1 ∧ mb.1 37 0 = ma.1 37 0 ∧ ∀ q, zFR mb q = zFR ma q := by
  obtain ⟨_, _, hc3⟩ := hr
  rcases hc3 with ⟨h1, _, h3, h4⟩ | ⟨h1, h2, h3, _⟩
  · exact ⟨h1, h3, h4⟩
  · rcases hN with hN | hN | hN
    · omega
    · omega
    · exact absurd (by rw [h5.1, ← na]; exact h3) hN
theorem zLr {m0 ma mb : wm} {x y r : Int} (h5 : zE5 m0) (hS : zFS m0) (hx : 0 ≤ x ∧ x ≤ 1) (hc : zTake (zCF m0 x.toNat) (m0.1 6 x.toNat 3) (zBR m0 0) (zCF ma x.toNat) (ma.1 6 x.toNat 3) y) (na : zNH ma = zNH m0) (fa : ∀ q, zFR ma q = zFR m0 q) (va : ∀ t, ma.1 37 0 t = m0.1 37 0 t) (hr : (mb.1 34 0 0 = 1 ∧ (x < 0 ∨ 1 < x) ∧ mb.1 37 0 = ma.1 37 0 ∧ ∀ q, zFR mb q = zFR ma q) ∨ (mb.1 34 0 0 = 0 ∧ 0 ≤ x ∧ x ≤ 1 ∧ zTake (fun q => zFR ma (6 * x.toNat + q)) (ma.1 37 0 x.toNat) (zNH ma) (fun q => zFR mb (6 * x.toNat + q)) (mb.1 37 0 x.toNat) r)) : mb.1 34 0 0 = 0 ∧ y = r ∧ ma.1 6 x.toNat 3 = mb.1 37 0 x.toNat ∧ ∀ q : Nat, (q : Int) < ma.1 6 x.toNat 3 → zCF ma x.toNat q = zFR mb (6 * x.toNat + q) := by
  rcases hr with ⟨_, h1, _⟩ | ⟨h1, _, _, h4⟩
  · omega
  · have hs := hS x.toNat (by omega)
    rw [show (fun q => zFR ma (6 * x.toNat + q)) = (fun q => zFR m0 (6 * x.toNat + q)) from funext fun q => fa _, va, na, ← h5.1, ← hs.1] at h4
    have z := zTake_u hs.2 hc h4
    exact ⟨h1, z⟩
theorem zLr1 {ma mb : wm} {x : Int} (hx : x < 0 ∨ 1 < x) {P : Prop} (hr : (mb.1 34 0 0 = 1 ∧ (x < 0 ∨ 1 < x) ∧ mb.1 37 0 = ma.1 37 0 ∧ ∀ q, zFR mb q = zFR ma q) ∨ (mb.1 34 0 0 = 0 ∧ 0 ≤ x ∧ x ≤ 1 ∧ P)) : mb.1 34 0 0 = 1 ∧ mb.1 37 0 = ma.1 37 0 ∧ ∀ q, zFR mb q = zFR ma q := by
  rcases hr with ⟨h1, _, h3, h4⟩ | ⟨h1, h2, h3, _⟩
  · exact ⟨h1, h3, h4⟩
  · omega
