/-! The class's rows in memory. -/
theorem wor_1 {X f : Int} (hX : 0 ≤ X ∧ X ≤ 65535) (hf : 0 ≤ f ∧ f ≤ 1) : wor (2 * X) f = 2 * X + f := by
  have eX : (wi (2 * X)).toBitVec.toNat = 2 * X.toNat := by show (BitVec.ofInt 32 (2 * X)).toNat = _; rw [BitVec.toNat_ofInt]; omega
  have eF : (wi f).toBitVec.toNat = f.toNat := by show (BitVec.ofInt 32 f).toNat = _; rw [BitVec.toNat_ofInt]; omega
  have e : ((wi (2 * X)).toBitVec ||| (wi f).toBitVec).toNat = 2 * X.toNat + f.toNat := by
    rw [BitVec.toNat_or, eX, eF]
    have h := Nat.two_pow_add_eq_or_of_lt (i := 1) (b := f.toNat) (by omega) X.toNat
    rw [show 2 ^ 1 * X.toNat = 2 * X.toNat from rfl] at h
    exact h.symm
  show ((wi (2 * X)).toBitVec ||| (wi f).toBitVec).toInt = _
  rw [BitVec.toInt_eq_toNat_of_lt (by omega), e]
  omega
def zIn (m : wm) (x y : Int) : Nat → Bool := fun j => decide (x ≤ m.1 23 0 j ∧ m.1 23 0 j ≤ y)
def zOut (m : wm) (x y : Int) : Nat → Bool := fun j => decide (m.1 23 0 j < x ∨ y < m.1 23 0 j)
def zRowE (m m' : wm) (j j' : Nat) : Prop := m.1 23 0 j = m'.1 23 0 j' ∧ m.1 24 0 j = m'.1 24 0 j' ∧ m.2.1 25 0 j = m'.2.1 25 0 j'
/-- dropping, up to a place -/
def zDu (m0 m : wm) (x y w : Int) : Prop := (∀ i : Nat, (i : Int) < w → zOut m0 x y i = true → zRowE m m0 (zct (zOut m0 x y) i) i) ∧ ∀ j : Nat, w ≤ (j : Int) → zRowE m m0 j j
/-- dropped -/
def zDr (m0 m1 : wm) (x y : Int) : Prop := m1.1 22 0 3 = ((zct (zOut m0 x y) (zCu0 m0) : Nat) : Int) ∧ ∀ i : Nat, i < zCu0 m0 → zOut m0 x y i = true → zRowE m1 m0 (zct (zOut m0 x y) i) i
theorem zDu_0 {m : wm} {x y : Int} : zDu m m x y 0 := ⟨fun i hi => absurd hi (by omega), fun j _ => ⟨rfl, rfl, rfl⟩⟩
theorem zDu_s {m0 m ma mb mc : wm} {x y z w : Int} (h : zDu m0 m x y w) (hw : 0 ≤ w) (hz : z = ((zct (zOut m0 x y) w.toNat : Nat) : Int)) (hZ : zOut m0 x y w.toNat = true) (hX : ma = wuI m 23 0 z.toNat (m.1 23 0 w.toNat)) (hY : mb = wuI ma 24 0 z.toNat (ma.1 24 0 w.toNat)) (hV : mc = wuL mb 25 0 z.toNat (mb.2.1 25 0 w.toNat)) : zDu m0 mc x y (w + 1) := by
  have zz : z.toNat = zct (zOut m0 x y) w.toNat := by omega
  have zl : zct (zOut m0 x y) w.toNat ≤ w.toNat := zct_le _
  have kne : ∀ j, j ≠ z.toNat → zRowE mc m j j := fun j hj => by
    refine ⟨?_, ?_, ?_⟩
    · rw [hV]
      show mb.1 23 0 j = _
      rw [hY]
      show ma.1 23 0 j = _
      rw [hX]
      exact wuI_nj (by omega)
    · rw [hV]
      show mb.1 24 0 j = _
      rw [hY, wuI_nj (by omega), hX]
      rfl
    · rw [hV]
      show (if 25 = 25 ∧ 0 = 0 ∧ j = z.toNat then _ else mb.2.1 25 0 j) = _
      rw [if_neg (by omega), hY]
      show ma.2.1 25 0 j = _
      rw [hX]
      rfl
  have keq : zRowE mc m z.toNat w.toNat := by
    refine ⟨?_, ?_, ?_⟩
    · rw [hV]
      show mb.1 23 0 z.toNat = _
      rw [hY]
      show ma.1 23 0 z.toNat = _
      rw [hX]
      exact wuI_self
    · rw [hV]
      show mb.1 24 0 z.toNat = _
      rw [hY, wuI_self, hX]
      rfl
    · rw [hV]
      show (if 25 = 25 ∧ 0 = 0 ∧ z.toNat = z.toNat then mb.2.1 25 0 w.toNat else _) = _
      rw [if_pos ⟨rfl, rfl, rfl⟩, hY]
      show ma.2.1 25 0 w.toNat = _
      rw [hX]
      rfl
  have tr : ∀ {a b c : wm} {i j k : Nat}, zRowE a b i j → zRowE b c j k → zRowE a c i k := fun h1 h2 => ⟨h1.1.trans h2.1, h1.2.1.trans h2.2.1, h1.2.2.trans h2.2.2⟩
  refine ⟨fun i hi hZi => ?_, fun j hj => ?_⟩
  · by_cases hiw : i = w.toNat
    · subst hiw
      rw [← zz]
      exact tr keq (h.2 _ (by omega))
    · have hlt : zct (zOut m0 x y) i < zct (zOut m0 x y) w.toNat := zct_lt (by omega) hZi
      exact tr (kne _ (by omega)) (h.1 i (by omega) hZi)
  · exact tr (kne _ (by omega)) (h.2 j (by omega))
theorem zDu_n {m0 m : wm} {x y w : Int} (h : zDu m0 m x y w) (hw : 0 ≤ w) (hZ : zOut m0 x y w.toNat = false) : zDu m0 m x y (w + 1) :=
  ⟨fun i hi hZi => by
    by_cases hiw : i = w.toNat
    · subst hiw; rw [hZ] at hZi; cases hZi
    · exact h.1 i (by omega) hZi, fun j hj => h.2 j (by omega)⟩
/-- telling, in memory -/
def zTl (m : wm) (x y z w : Int) : Prop := 0 ≤ z ∧ z ≤ 255 ∧ (∃ v, zsq (zKp m x) (zCw m) w.toNat (y.toNat ^^^ z.toNat, v)) ∧ ∀ i, i < w.toNat → zKp m x i = true → ∀ p, zlw (zCw m i).1 p → z.toNat.testBit p = false
theorem zTl_0 {m : wm} {x y : Int} (h : 0 ≤ y ∧ y ≤ 255) : zTl m x y y 0 := ⟨h.1, h.2, ⟨0, by show (y.toNat ^^^ y.toNat, (0 : Int64)) = (0, 0); rw [Nat.xor_self]⟩, fun i hi => absurd hi (by omega)⟩
theorem zCw_M {m : wm} {x : Int} {w : Nat} (hE : zCe m) (hw : w < zCu0 m) (hP : zKp m x w = true) : 1 ≤ m.1 24 0 w ∧ m.1 24 0 w ≤ 255 := by
  have h1 := hE.1 w hw
  have h2 := (hE.2 x w hw hP).1
  have h3 : (m.1 24 0 w).toNat ≠ 0 := h2
  omega
theorem zTl_s {m : wm} {x y z w : Int} (hE : zCe m) (h : zTl m x y z w) (hw : 0 ≤ w) (hu : w < m.1 22 0 3) (hk : m.1 23 0 w.toNat = x) (hp : wand (wand (m.1 24 0 w.toNat) (-(m.1 24 0 w.toNat))) z ≠ 0) : zTl m x y (wxor z (m.1 24 0 w.toNat)) (w + 1) := by
  obtain ⟨z0, z1, ⟨v, hv⟩, hb⟩ := h
  have hwu : w.toNat < zCu0 m := by unfold zCu0; omega
  have hP : zKp m x w.toNat = true := decide_eq_true hk
  have hM := zCw_M hE hwu hP
  have hx := wxor_255 ⟨z0, z1⟩ (show 0 ≤ m.1 24 0 w.toNat ∧ m.1 24 0 w.toNat ≤ 255 from ⟨by omega, hM.2⟩)
  have hn := wxor_n ⟨z0, z1⟩ (show 0 ≤ m.1 24 0 w.toNat ∧ m.1 24 0 w.toNat ≤ 255 from ⟨by omega, hM.2⟩)
  have hs := ztl_s (v := 0) (hE.2 x) hwu hv hb hP (fun p hp2 => (zpiv hM ⟨z0, z1⟩ hp2).1 hp)
  refine ⟨hx.1, hx.2, ⟨v ^^^ (zCw m w.toNat).2, ?_⟩, ?_⟩
  · rw [show (w + 1).toNat = w.toNat + 1 by omega, hn]
    exact hs.1
  · rw [show (w + 1).toNat = w.toNat + 1 by omega, hn]
    exact hs.2
theorem zTl_n {m : wm} {x y z w : Int} (hE : zCe m) (h : zTl m x y z w) (hw : 0 ≤ w) (hu : w < m.1 22 0 3) (hp : ¬ (m.1 23 0 w.toNat = x ∧ wand (wand (m.1 24 0 w.toNat) (-(m.1 24 0 w.toNat))) z ≠ 0)) : zTl m x y z (w + 1) := by
  obtain ⟨z0, z1, ⟨v, hv⟩, hb⟩ := h
  have hwu : w.toNat < zCu0 m := by unfold zCu0; omega
  refine ⟨z0, z1, ⟨v, ?_⟩, ?_⟩
  · rw [show (w + 1).toNat = w.toNat + 1 by omega]
    exact Or.inl hv
  · rw [show (w + 1).toNat = w.toNat + 1 by omega]
    refine ztl_n hb fun hP p hp2 => ?_
    have hk : m.1 23 0 w.toNat = x := of_decide_eq_true hP
    have hM := zCw_M hE hwu hP
    cases hbit : z.toNat.testBit p with
    | false => rfl
    | true => exact absurd ⟨hk, (zpiv hM ⟨z0, z1⟩ hp2).2 hbit⟩ hp
theorem zTl_e {m : wm} {x y z w : Int} (hE : zCe m) (h : zTl m x y z w) (hu : w.toNat = zCu0 m) : z = 0 ↔ ∃ v, zsq (zKp m x) (zCw m) (zCu0 m) (y.toNat, v) := by
  obtain ⟨z0, z1, ⟨v, hv⟩, hb⟩ := h
  rw [hu] at hv hb
  have h1 := ztl_e (hE.2 x) hv hb
  constructor
  · intro h2; exact h1.1 (by omega)
  · intro h2; have := h1.2 h2; omega
/-- adding: the value goes along -/
def zTa (m : wm) (x y z w : Int) (v g : Int64) : Prop := 0 ≤ z ∧ z ≤ 255 ∧ zsq (zKp m x) (zCw m) w.toNat (y.toNat ^^^ z.toNat, v ^^^ g) ∧ ∀ i, i < w.toNat → zKp m x i = true → ∀ p, zlw (zCw m i).1 p → z.toNat.testBit p = false
theorem zTa_0 {m : wm} {x y : Int} {v : Int64} (h : 0 ≤ y ∧ y ≤ 255) : zTa m x y y 0 v v := ⟨h.1, h.2, by show (y.toNat ^^^ y.toNat, v ^^^ v) = (0, 0); rw [Nat.xor_self, Int64.xor_self], fun i hi => absurd hi (by omega)⟩
theorem zTa_s {m : wm} {x y z w : Int} {v g : Int64} (hE : zCe m) (h : zTa m x y z w v g) (hw : 0 ≤ w) (hu : w < m.1 22 0 3) (hk : m.1 23 0 w.toNat = x) (hp : wand (wand (m.1 24 0 w.toNat) (-(m.1 24 0 w.toNat))) z ≠ 0) : zTa m x y (wxor z (m.1 24 0 w.toNat)) (w + 1) v (g ^^^ m.2.1 25 0 w.toNat) := by
  obtain ⟨z0, z1, hv, hb⟩ := h
  have hwu : w.toNat < zCu0 m := by unfold zCu0; omega
  have hP : zKp m x w.toNat = true := decide_eq_true hk
  have hM := zCw_M hE hwu hP
  have hx := wxor_255 ⟨z0, z1⟩ (show 0 ≤ m.1 24 0 w.toNat ∧ m.1 24 0 w.toNat ≤ 255 from ⟨by omega, hM.2⟩)
  have hn := wxor_n ⟨z0, z1⟩ (show 0 ≤ m.1 24 0 w.toNat ∧ m.1 24 0 w.toNat ≤ 255 from ⟨by omega, hM.2⟩)
  have hs := ztl_s (v := 0) (hE.2 x) hwu hv hb hP (fun p hp2 => (zpiv hM ⟨z0, z1⟩ hp2).1 hp)
  refine ⟨hx.1, hx.2, ?_, ?_⟩
  · rw [show (w + 1).toNat = w.toNat + 1 by omega, hn, ← Int64.xor_assoc]
    exact hs.1
  · rw [show (w + 1).toNat = w.toNat + 1 by omega, hn]
    exact hs.2
theorem zTa_n {m : wm} {x y z w : Int} {v g : Int64} (hE : zCe m) (h : zTa m x y z w v g) (hw : 0 ≤ w) (hu : w < m.1 22 0 3) (hp : ¬ (m.1 23 0 w.toNat = x ∧ wand (wand (m.1 24 0 w.toNat) (-(m.1 24 0 w.toNat))) z ≠ 0)) : zTa m x y z (w + 1) v g := by
  obtain ⟨z0, z1, hv, hb⟩ := h
  have h2 := zTl_n (y := y) hE ⟨z0, z1, ⟨_, hv⟩, hb⟩ hw hu hp
  refine ⟨z0, z1, ?_, h2.2.2.2⟩
  rw [show (w + 1).toNat = w.toNat + 1 by omega]
  exact Or.inl hv
/-- the others are solved by the new one, up to a place -/
def zTb (m0 m : wm) (x z q w : Int) (g : Int64) : Prop := (∀ j : Nat, m.1 23 0 j = m0.1 23 0 j) ∧ m.1 22 0 3 = m0.1 22 0 3 ∧ ∀ j : Nat, (((j : Int) < w ∧ m0.1 23 0 j = x ∧ wand (m0.1 24 0 j) q ≠ 0) → m.1 24 0 j = wxor (m0.1 24 0 j) z ∧ m.2.1 25 0 j = m0.2.1 25 0 j ^^^ g) ∧ (¬ ((j : Int) < w ∧ m0.1 23 0 j = x ∧ wand (m0.1 24 0 j) q ≠ 0) → m.1 24 0 j = m0.1 24 0 j ∧ m.2.1 25 0 j = m0.2.1 25 0 j)
theorem zTb_0 {m : wm} {x z q : Int} {g : Int64} : zTb m m x z q 0 g := ⟨fun _ => rfl, rfl, fun j => ⟨fun h => absurd h.1 (by omega), fun _ => ⟨rfl, rfl⟩⟩⟩
theorem zTb_n {m0 m : wm} {x z q w : Int} {g : Int64} (h : zTb m0 m x z q w g) (hw : 0 ≤ w) (hn : ¬ (m.1 23 0 w.toNat = x ∧ wand (m.1 24 0 w.toNat) q ≠ 0)) : zTb m0 m x z q (w + 1) g := by
  refine ⟨h.1, h.2.1, fun j => ?_⟩
  by_cases hj : j = w.toNat
  · subst hj
    have h0 := (h.2.2 w.toNat).2 (fun z => absurd z.1 (by omega))
    rw [h.1 w.toNat, h0.1] at hn
    exact ⟨fun z => absurd z.2 hn, fun _ => h0⟩
  · exact ⟨fun z => (h.2.2 j).1 ⟨by omega, z.2⟩, fun z => (h.2.2 j).2 (fun z2 => z ⟨by omega, z2.2⟩)⟩
theorem zTb_s {m0 m ma mb : wm} {x z q w : Int} {g : Int64} (h : zTb m0 m x z q w g) (hw : 0 ≤ w) (hk : m.1 23 0 w.toNat = x) (hb : wand (m.1 24 0 w.toNat) q ≠ 0) (hX : ma = wuI m 24 0 w.toNat (wxor (m.1 24 0 w.toNat) z)) (hY : mb = wuL ma 25 0 w.toNat (ma.2.1 25 0 w.toNat ^^^ g)) : zTb m0 mb x z q (w + 1) g := by
  have h0 := (h.2.2 w.toNat).2 (fun z => absurd z.1 (by omega))
  have k3 : ∀ j, mb.1 23 0 j = m.1 23 0 j := fun j => by rw [hY]; show ma.1 23 0 j = _; rw [hX]; rfl
  have k4 : ∀ j, j ≠ w.toNat → mb.1 24 0 j = m.1 24 0 j ∧ mb.2.1 25 0 j = m.2.1 25 0 j := fun j hj => by
    constructor
    · rw [hY]; show ma.1 24 0 j = _; rw [hX]; exact wuI_nj (by omega)
    · rw [hY]
      show (if 25 = 25 ∧ 0 = 0 ∧ j = w.toNat then _ else ma.2.1 25 0 j) = _
      rw [if_neg (by omega), hX]
      rfl
  have k5 : mb.1 24 0 w.toNat = wxor (m.1 24 0 w.toNat) z := by rw [hY]; show ma.1 24 0 w.toNat = _; rw [hX]; exact wuI_self
  have k6 : mb.2.1 25 0 w.toNat = m.2.1 25 0 w.toNat ^^^ g := by
    rw [hY]
    show (if 25 = 25 ∧ 0 = 0 ∧ w.toNat = w.toNat then ma.2.1 25 0 w.toNat ^^^ g else _) = _
    rw [if_pos ⟨rfl, rfl, rfl⟩, hX]
    rfl
  refine ⟨fun j => (k3 j).trans (h.1 j), ?_, fun j => ?_⟩
  · rw [hY]; show ma.1 22 0 3 = _; rw [hX]; exact h.2.1
  · by_cases hj : j = w.toNat
    · subst hj
      rw [h.1 w.toNat] at hk
      rw [h0.1] at hb
      refine ⟨fun _ => ⟨by rw [k5, h0.1], by rw [k6, h0.2]⟩, fun z => absurd ⟨by omega, hk, hb⟩ z⟩
    · rw [(k4 j hj).1, (k4 j hj).2]
      exact ⟨fun z => (h.2.2 j).1 ⟨by omega, z.2⟩, fun z => (h.2.2 j).2 (fun z2 => z ⟨by omega, z2.2⟩)⟩
/-- added -/
def zAd (m0 m1 : wm) (x y : Int) (v : Int64) : Prop := m1.1 22 0 3 = m0.1 22 0 3 + 1 ∧ (∀ j, j < zCu0 m0 → m1.1 23 0 j = m0.1 23 0 j) ∧ m1.1 23 0 (zCu0 m0) = x ∧ (∀ j, j < zCu0 m0 → m0.1 23 0 j ≠ x → m1.1 24 0 j = m0.1 24 0 j ∧ m1.2.1 25 0 j = m0.2.1 25 0 j) ∧ (∀ p, zsq (zKp m1 x) (zCw m1) (zCu0 m1) p ↔ zsq (zKp m0 x) (zCw m0) (zCu0 m0) p ∨ zsq (zKp m0 x) (zCw m0) (zCu0 m0) (zxo p (y.toNat, v))) ∧ zCe m1 ∧ ∀ N, y.toNat < 2 ^ N → (∀ j, j < zCu0 m0 → m0.1 23 0 j = x → (m0.1 24 0 j).toNat < 2 ^ N) → ∀ j, j < zCu0 m1 → m1.1 23 0 j = x → (m1.1 24 0 j).toNat < 2 ^ N
theorem wand_c (X Y : Int) : wand X Y = wand Y X := by
  show (wi X &&& wi Y).toInt = (wi Y &&& wi X).toInt
  rw [Int32.and_comm]
theorem zec_n {P P' : Nat → Bool} {R R' : Nat → zRo} {u : Nat} (h : zec P R u) (hu : P' u = false) (hP : ∀ j, j < u → P' j = P j) (hR : ∀ j, j < u → P j = true → R' j = R j) : zec P' R' (u + 1) := fun i hi hPi => by
  have hiu : i ≠ u := fun e => by rw [e, hu] at hPi; cases hPi
  have hi2 : i < u := by omega
  have hPi2 : P i = true := (hP i hi2).symm.trans hPi
  rw [hR i hi2 hPi2]
  refine ⟨(h i hi2 hPi2).1, fun p hp j hj hPj hn => ?_⟩
  have hju : j ≠ u := fun e => by rw [e, hu] at hPj; cases hPj
  have hj2 : j < u := by omega
  have hPj2 : P j = true := (hP j hj2).symm.trans hPj
  rw [hR j hj2 hPj2]
  exact (h i hi2 hPi2).2 p hp j hj2 hPj2 hn
theorem zAd_of {m0 m ma mb mc md : wm} {x y z q w w' : Int} {v g : Int64} {U1 U2 U3 : Nat} (hE : zCe m0) (hT : zTa m0 x y z w' v g) (hw' : w'.toNat = zCu0 m0) (hn : ¬ ∃ v, zsq (zKp m0 x) (zCw m0) (zCu0 m0) (y.toNat, v)) (hq : q = wand z (-z)) (hB : zTb m0 m x z q w g) (hw : m0.1 22 0 3 ≤ w) (hu : 0 ≤ m0.1 22 0 3) (hX : ma = wuI m 23 0 U1 x) (hY : mb = wuI ma 24 0 U2 z) (hV : mc = wuL mb 25 0 U3 g) (hU : md = wuI mc 22 0 3 (mc.1 22 0 3 + 1)) (e1 : U1 = zCu0 m0) (e2 : U2 = zCu0 m0) (e3 : U3 = zCu0 m0) : zAd m0 md x y v := by
  obtain ⟨z0, z1, hs, hb⟩ := hT
  rw [hw'] at hs hb
  have hz : z ≠ 0 := fun e => hn ((ztl_e (hE.2 x) hs hb).1 (by rw [e]; rfl))
  obtain ⟨p, hp⟩ := zlw_e (M := z.toNat) (by omega)
  have k22 : md.1 22 0 3 = m0.1 22 0 3 + 1 := by
    rw [hU, wuI_self, hV]
    show mb.1 22 0 3 + 1 = _
    rw [hY]
    show ma.1 22 0 3 + 1 = _
    rw [hX]
    show m.1 22 0 3 + 1 = _
    rw [hB.2.1]
  have k23 : ∀ j, j ≠ zCu0 m0 → md.1 23 0 j = m0.1 23 0 j := fun j hj => by
    rw [hU]
    show mc.1 23 0 j = _
    rw [hV]
    show mb.1 23 0 j = _
    rw [hY]
    show ma.1 23 0 j = _
    rw [hX, wuI_nj (by omega)]
    exact hB.1 j
  have k23u : md.1 23 0 (zCu0 m0) = x := by
    rw [hU]
    show mc.1 23 0 _ = _
    rw [hV]
    show mb.1 23 0 _ = _
    rw [hY]
    show ma.1 23 0 _ = _
    rw [hX, ← e1, wuI_self]
  have k24 : ∀ j, j ≠ zCu0 m0 → md.1 24 0 j = m.1 24 0 j ∧ md.2.1 25 0 j = m.2.1 25 0 j := fun j hj => by
    constructor
    · rw [hU]
      show mc.1 24 0 j = _
      rw [hV]
      show mb.1 24 0 j = _
      rw [hY, wuI_nj (by omega), hX]
      rfl
    · rw [hU]
      show mc.2.1 25 0 j = _
      rw [hV]
      show (if 25 = 25 ∧ 0 = 0 ∧ j = U3 then _ else mb.2.1 25 0 j) = _
      rw [if_neg (by omega), hY]
      show ma.2.1 25 0 j = _
      rw [hX]
      rfl
  have k24u : md.1 24 0 (zCu0 m0) = z := by
    rw [hU]
    show mc.1 24 0 _ = _
    rw [hV]
    show mb.1 24 0 _ = _
    rw [hY, ← e2, wuI_self]
  have k25u : md.2.1 25 0 (zCu0 m0) = g := by
    rw [hU]
    show mc.2.1 25 0 _ = _
    rw [hV, ← e3]
    show (if 25 = 25 ∧ 0 = 0 ∧ U3 = U3 then g else _) = _
    rw [if_pos ⟨rfl, rfl, rfl⟩]
  have kn : zCu0 md = zCu0 m0 + 1 := by unfold zCu0; rw [k22]; omega
  have hM0 : ∀ j, j < zCu0 m0 → 0 ≤ m0.1 24 0 j ∧ m0.1 24 0 j ≤ 255 := hE.1
  have hbit : ∀ j, j < zCu0 m0 → (wand (m0.1 24 0 j) q ≠ 0 ↔ (m0.1 24 0 j).toNat.testBit p = true) := fun j hj => by
    rw [hq, wand_c]
    exact zpiv ⟨by omega, z1⟩ (hM0 j hj) hp
  have hlt : ∀ j, j < zCu0 m0 → (j : Int) < w := fun j hj => by unfold zCu0 at hj; omega
  have hRx : ∀ j, j < zCu0 m0 → m0.1 23 0 j = x → ((zCw m0 j).1.testBit p = false ∧ zCw md j = zCw m0 j) ∨ ((zCw m0 j).1.testBit p = true ∧ zCw md j = zxo (zCw m0 j) (z.toNat, g)) := fun j hj hk => by
    have h4 := k24 j (by omega)
    cases hbt : (m0.1 24 0 j).toNat.testBit p with
    | true =>
      have h5 := (hB.2.2 j).1 ⟨hlt j hj, hk, (hbit j hj).2 hbt⟩
      refine Or.inr ⟨hbt, Prod.ext ?_ ?_⟩
      · show (md.1 24 0 j).toNat = (m0.1 24 0 j).toNat ^^^ z.toNat
        rw [h4.1, h5.1]
        exact wxor_n (hM0 j hj) ⟨z0, z1⟩
      · show md.2.1 25 0 j = m0.2.1 25 0 j ^^^ g
        rw [h4.2, h5.2]
    | false =>
      have h5 := (hB.2.2 j).2 (fun h => by have := (hbit j hj).1 h.2.2; rw [hbt] at this; cases this)
      refine Or.inl ⟨hbt, Prod.ext ?_ ?_⟩
      · show (md.1 24 0 j).toNat = (m0.1 24 0 j).toNat
        rw [h4.1, h5.1]
      · show md.2.1 25 0 j = m0.2.1 25 0 j
        rw [h4.2, h5.2]
  have hRo : ∀ j, j < zCu0 m0 → m0.1 23 0 j ≠ x → md.1 24 0 j = m0.1 24 0 j ∧ md.2.1 25 0 j = m0.2.1 25 0 j := fun j hj hk => by
    have h4 := k24 j (by omega)
    have h5 := (hB.2.2 j).2 (fun h => hk h.2.1)
    exact ⟨h4.1.trans h5.1, h4.2.trans h5.2⟩
  have hPj : ∀ K j, j < zCu0 m0 → zKp md K j = zKp m0 K j := fun K j hj => by
    show decide (md.1 23 0 j = K) = decide (m0.1 23 0 j = K)
    rw [k23 j (by omega)]
  have hPu : zKp md x (zCu0 m0) = true := decide_eq_true k23u
  have hRu : zCw md (zCu0 m0) = (z.toNat, g) := Prod.ext (by show (md.1 24 0 (zCu0 m0)).toNat = _; rw [k24u]) k25u
  have hR2 : ∀ j, j < zCu0 m0 → zKp m0 x j = true → ((zCw m0 j).1.testBit p = false ∧ zCw md j = zCw m0 j) ∨ ((zCw m0 j).1.testBit p = true ∧ zCw md j = zxo (zCw m0 j) (z.toNat, g)) := fun j hj hP => hRx j hj (of_decide_eq_true hP)
  refine ⟨k22, fun j hj => k23 j (by omega), k23u, hRo, fun r => ?_, ⟨fun j hj => ?_, fun K => ?_⟩, fun N hy hN j hj hk => ?_⟩
  · rw [kn]
    exact zad_s (n := (z.toNat, g)) (hPj x) hPu hs hRu (fun j hj hP => (hR2 j hj hP).elim (fun h => Or.inl h.2) (fun h => Or.inr h.2)) r
  · rw [kn] at hj
    by_cases hju : j = zCu0 m0
    · rw [hju, k24u]; exact ⟨z0, z1⟩
    · have hj2 : j < zCu0 m0 := by omega
      by_cases hk : m0.1 23 0 j = x
      · have h4 := (k24 j hju).1
        by_cases hc : (j : Int) < w ∧ m0.1 23 0 j = x ∧ wand (m0.1 24 0 j) q ≠ 0
        · rw [h4, ((hB.2.2 j).1 hc).1]
          exact wxor_255 (hM0 j hj2) ⟨z0, z1⟩
        · rw [h4, ((hB.2.2 j).2 hc).1]
          exact hM0 j hj2
      · rw [(hRo j hj2 hk).1]
        exact hM0 j hj2
  · rw [kn]
    by_cases hK : K = x
    · subst hK
      exact zad_e (n := (z.toNat, g)) (hE.2 K) (hPj K) hPu hRu hp hb hR2
    · refine zec_n (hE.2 K) ?_ (hPj K) (fun j hj hP => ?_)
      · show decide (md.1 23 0 (zCu0 m0) = K) = false
        rw [k23u]
        exact decide_eq_false (fun e => hK e.symm)
      · have hk : m0.1 23 0 j = K := of_decide_eq_true hP
        have h6 := hRo j hj (fun e => hK (hk.symm.trans e))
        exact Prod.ext (by show (md.1 24 0 j).toNat = (m0.1 24 0 j).toNat; rw [h6.1]) h6.2
  · rw [kn] at hj
    have hyz : (y.toNat ^^^ z.toNat) < 2 ^ N := by
      have : ∀ {u : Nat} {r : zRo}, u ≤ zCu0 m0 → zsq (zKp m0 x) (zCw m0) u r → r.1 < 2 ^ N := fun {u r} hu hr => zsq_cl (T := fun r => r.1 < 2 ^ N) (Nat.two_pow_pos N) (fun a b ha hb => Nat.xor_lt_two_pow ha hb) (fun j hj hP => hN j (by omega) (of_decide_eq_true hP)) hr
      exact this (Nat.le_refl _) hs
    have hzN : z.toNat < 2 ^ N := by
      have := Nat.xor_lt_two_pow hy hyz
      rw [← Nat.xor_assoc, Nat.xor_self, Nat.zero_xor] at this
      exact this
    by_cases hju : j = zCu0 m0
    · rw [hju, k24u]; exact hzN
    · have hj2 : j < zCu0 m0 := by omega
      rw [k23 j hju] at hk
      have h8 := hN j hj2 hk
      rcases hRx j hj2 hk with ⟨_, e⟩ | ⟨_, e⟩
      · rw [show (md.1 24 0 j).toNat = (m0.1 24 0 j).toNat from congrArg Prod.fst e]; exact h8
      · rw [show (md.1 24 0 j).toNat = (m0.1 24 0 j).toNat ^^^ z.toNat from congrArg Prod.fst e]; exact Nat.xor_lt_two_pow h8 hzN
