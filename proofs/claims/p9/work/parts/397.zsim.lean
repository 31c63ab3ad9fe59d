/-! Class and reference side by side: kept versions, the next packet, the slots. -/
def zE1 (m : wm) : Prop := m.1 3 0 2 = m.1 34 0 14
def zE2 (m : wm) : Prop := ∀ f, f < 2 → m.1 6 f 4 = m.1 42 0 f
def zE7 (m : wm) : Prop := ∀ q, q < 6 → m.1 10 q 2 = m.1 43 0 q ∧ ∀ i : Nat, (i : Int) < m.1 10 q 2 → zBR m (59 + 7 * q + i) = zKR m q i
def zNU (m : wm) : Prop := ∀ f, f < 2 → ∀ a : Int, 0 ≤ a → a ≤ 2 → 1 ≤ m.1 6 f 4 - a → m.1 10 (3 * f + ((m.1 6 f 4 - a) % 3).toNat) 1 = m.1 6 f 4 - a
def zGo (N c g : Int) : Prop := 0 ≤ c ∧ (g = c ∧ (c < N ∨ c = 0) ∨ g = N ∧ c = 0)
def zE8 (m : wm) : Prop := m.1 3 0 3 = m.1 34 0 15 % 4 ∧ zGo (zPO m 0) (m.1 5 0 0) (m.1 46 0 1) ∧ zGo (zPO m 1) (m.1 5 0 1) (m.1 46 0 0)
def zE9 (m : wm) : Prop := ∀ s, s < 32 → m.1 48 0 s = 1 → zBR m (3 + s) = zcut 24 (fun k => m.1 47 0 (24 * s + k))
section ZSM
variable {e : Nat → Nat → Nat → Prop} {m m1 : wm} {c : Int}
theorem zE7_fr (h : zE7 m) (hG : zB c m) (hf : zfr e m m1) (a1 : ∀ q, ¬ e 10 q 2) (a2 : ∀ i, 59 ≤ i → i < 101 → ¬ e 1 i 1) (a3 : ∀ i j, 59 ≤ i → i < 101 → ¬ e 2 i j) (a4 : ∀ k j, 43 ≤ k → k ≤ 45 → ¬ e k 0 j) : zE7 m1 := fun q hq => by
  have h1 := (hf 10 q 2 (a1 q)).1
  have h2 := (hf 43 0 q (a4 43 q (by decide) (by decide))).1
  obtain ⟨h3, h4⟩ := h q hq
  refine ⟨by rw [h1, h2]; exact h3, fun i hi => ?_⟩
  rw [h1] at hi
  have b : 0 ≤ m.1 10 q 2 ∧ m.1 10 q 2 ≤ 7 := hG.1 10 _ rfl q 2
  have e1 : zKR m1 q i = zKR m q i := zcut_eq (hf 44 0 (7 * q + i) (a4 44 _ (by decide) (by decide))).1 (fun k _ => (hf 45 0 (104 * (7 * q + i) + k) (a4 45 _ (by decide) (by decide))).1)
  rw [zBR_fr hf (a2 _ (by omega) (by omega)) (fun j => a3 _ j (by omega) (by omega)), h4 i hi, e1]
theorem zNU_fr (h : zNU m) (hf : zfr e m m1) (a1 : ∀ f, ¬ e 6 f 4) (a2 : ∀ q, ¬ e 10 q 1) : zNU m1 := fun f hf2 a h1 h2 h3 => by
  rw [(hf 6 f 4 (a1 f)).1] at h3 ⊢
  rw [(hf 10 _ 1 (a2 _)).1]
  exact h f hf2 a h1 h2 h3
theorem zE8_g (h : zE8 m) (p0 : zPO m1 0 = zPO m 0) (p1 : zPO m1 1 = zPO m 1) (a : m1.1 3 0 3 = m.1 3 0 3) (b : m1.1 34 0 15 = m.1 34 0 15) (c0 : m1.1 5 0 0 = m.1 5 0 0) (c1 : m1.1 5 0 1 = m.1 5 0 1) (g0 : m1.1 46 0 0 = m.1 46 0 0) (g1 : m1.1 46 0 1 = m.1 46 0 1) : zE8 m1 := by
  unfold zE8 at h ⊢
  rw [p0, p1, a, b, c0, c1, g0, g1]
  exact h
theorem zE8_fr (h : zE8 m) (hG : zB c m) (hf : zfr e m m1) (h1 : ∀ f, ¬ e 6 f 4) (h2 : ∀ t, ¬ e 10 t 2) (h3 : ∀ i, 59 ≤ i → i < 101 → ¬ e 1 i 1) (h4 : ∀ j, ¬ e 5 0 j) (h5 : ¬ e 3 0 3) (h6 : ¬ e 34 0 15) (h7 : ∀ j, ¬ e 46 0 j) : zE8 m1 :=
  zE8_g h (zPO_fr hG hf h1 h2 h3 0) (zPO_fr hG hf h1 h2 h3 1) (hf 3 0 3 h5).1 (hf 34 0 15 h6).1 (hf 5 0 0 (h4 0)).1 (hf 5 0 1 (h4 1)).1 (hf 46 0 0 (h7 0)).1 (hf 46 0 1 (h7 1)).1
theorem zE8_z (a : m.1 3 0 3 = 0) (b : m.1 34 0 15 = 0) (c0 : m.1 5 0 0 = 0) (c1 : m.1 5 0 1 = 0) (g0 : m.1 46 0 0 = 0) (g1 : m.1 46 0 1 = 0) : zE8 m := by
  unfold zE8 zGo
  rw [a, b, c0, c1, g0, g1]
  exact ⟨rfl, ⟨by decide, Or.inl ⟨rfl, Or.inr rfl⟩⟩, ⟨by decide, Or.inl ⟨rfl, Or.inr rfl⟩⟩⟩
theorem zE9_fr (h : zE9 m) (hf : zfr e m m1) (h1 : ∀ s, s < 32 → ¬ e 1 (3 + s) 1) (h2 : ∀ s j, s < 32 → ¬ e 2 (3 + s) j) (h3 : ∀ j, ¬ e 47 0 j) (h4 : ∀ s, s < 32 → ¬ e 48 0 s) : zE9 m1 := fun s hs h5 => by
  rw [(hf 48 0 s (h4 s hs)).1] at h5
  rw [zBR_fr hf (h1 s hs) (fun j => h2 s j hs), h s hs h5]
  exact zcut_eq rfl fun k _ => (hf 47 0 (24 * s + k) (h3 _)).1.symm
end ZSM
theorem zE9_p {m : wm} {s a : Nat} (h : zE9 m) (hs : s < 32) (hf : m.1 48 0 s = 1) (ha : a ≤ 16) : zen (fun k => (zBR m (3 + s)).2 (a + k)) 8 = zen (fun k : Nat => m.1 47 0 (24 * s + a + k)) 8 := zen_c fun k hk => by
  show (zBR m (3 + s)).2 (a + k) = m.1 47 0 (24 * s + a + k)
  rw [h s hs hf, show (zcut 24 (fun k => m.1 47 0 (24 * s + k))).2 (a + k) = m.1 47 0 (24 * s + (a + k)) from zcut_2 (by omega), Nat.add_assoc]
/-- a slot that was filled -/
theorem zE9_c {m ma mb : wm} {s : Nat} {l : List Int} (h : zE9 m) (hl : l.length = 24) (h1 : zBR mb (3 + s) = zLs l) (h2 : zSL mb s 24 l) (h3 : ∀ r, r < 32 → r ≠ s → zBR mb (3 + r) = zBR m (3 + r) ∧ mb.1 48 0 r = m.1 48 0 r ∧ ∀ k, k < 24 → mb.1 47 0 (24 * r + k) = m.1 47 0 (24 * r + k)) : zE9 mb := fun r hr h5 => by
  by_cases hy : r = s
  · rw [hy, h1]
    refine zcut_eq (by rw [hl]; rfl) fun k hk => (h2.2 k ?_).symm
    have : (k : Int) < (l.length : Int) := hk
    omega
  · obtain ⟨a1, a2, a3⟩ := h3 r hr hy
    rw [a2] at h5
    rw [a1, h r hr h5]
    exact zcut_eq rfl fun k hk => (a3 k (by have hk2 : (k : Int) < 24 := hk; omega)).symm
/-- a byte that was turned -/
theorem zE9_a {c : Int} {m ma mb : wm} {x y z : Int} (h : zE9 m) (hG : zB c m) (hx : 0 ≤ x ∧ x ≤ 31) (hy : 0 ≤ y ∧ y ≤ 23) (hz : ∀ r, r < 32 → mb.1 1 (3 + r) 1 = m.1 1 (3 + r) 1 ∧ mb.1 48 0 r = m.1 48 0 r) (hc : m.1 48 0 x.toNat = 1 → mb.1 2 (3 + x.toNat) y.toNat = wand (wxor (m.1 2 (3 + x.toNat) y.toNat) z) 255 ∧ mb.1 47 0 (24 * x + y).toNat = wxor (m.1 47 0 (24 * x + y).toNat) (wand z 255)) (o2 : ∀ r j, r < 32 → ¬ (r = x.toNat ∧ j = y.toNat) → mb.1 2 (3 + r) j = m.1 2 (3 + r) j) (o7 : ∀ j, j ≠ (24 * x + y).toNat → mb.1 47 0 j = m.1 47 0 j) : zE9 mb := fun r hr h5 => by
  rw [(hz r hr).2] at h5
  have h6 := h r hr h5
  have h7 : m.1 1 (3 + r) 1 = 24 := congrArg Prod.fst h6
  have h8 : ∀ k : Nat, k < 24 → m.1 2 (3 + r) k = m.1 47 0 (24 * r + k) := fun k hk => by
    have h9 := congrFun (congrArg Prod.snd h6) k
    rw [show (zBR m (3 + r)).2 k = m.1 2 (3 + r) k from zcut_2 (by omega), show (zcut 24 (fun k => m.1 47 0 (24 * r + k))).2 k = m.1 47 0 (24 * r + k) from zcut_2 (by omega)] at h9
    exact h9
  refine zcut_eq ((hz r hr).1.trans h7) fun k hk => ?_
  have hk2 : (k : Int) < mb.1 1 (3 + r) 1 := hk
  rw [(hz r hr).1, h7] at hk2
  have hk3 : k < 24 := by omega
  show mb.1 2 (3 + r) k = mb.1 47 0 (24 * r + k)
  by_cases hq : r = x.toNat ∧ k = y.toNat
  · obtain ⟨q1, q2⟩ := hq
    have e1 : (24 * x + y).toNat = 24 * r + k := by omega
    have e2 := hc (by rw [← q1]; exact h5)
    rw [e1, ← q1, ← q2] at e2
    have b : 0 ≤ m.1 47 0 (24 * r + k) ∧ m.1 47 0 (24 * r + k) ≤ 255 := hG.1 47 _ rfl _ _
    rw [e2.1, e2.2, h8 k hk3, wxor_and b]
  · rw [o2 r k hr hq, o7 _ (by omega), h8 k hk3]
/-- a commit -/
theorem zE7_c {m0 ma mb : wm} {f : Nat} (hf : f < 2) (hS : zFS m0) (h7 : zE7 m0) (hr : zRec m0 ma (3 * f + ((m0.1 6 f 4 + 1) % 3).toNat) f (m0.1 6 f 4 + 1)) (hm : zRcm ma mb f) (e2 : ma.1 42 0 f = m0.1 6 f 4) (e37 : ma.1 37 0 f = m0.1 37 0 f) (eF : ∀ q, zFR ma q = zFR m0 q) (eK : ∀ q, ma.1 43 0 q = m0.1 43 0 q) (eR : ∀ q i, zKR ma q i = zKR m0 q i) (eB : ∀ R, 59 ≤ R → R < 101 → zBR mb R = zBR ma R) (eN : ∀ q, mb.1 10 q 2 = ma.1 10 q 2) (b6 : 0 ≤ m0.1 6 f 3 ∧ m0.1 6 f 3 ≤ 6) (b7 : ∀ q, m0.1 10 q 2 ≤ 7) : zE7 mb := fun q hq => by
  obtain ⟨s1, s2⟩ := hS f hf
  unfold zRcm at hm
  rw [e2, e37] at hm
  obtain ⟨c1, c2, c3, c4, -, -, -⟩ := hm
  obtain ⟨r1, r2, r3, r4, r5⟩ := hr
  have hT : 3 * f + ((m0.1 6 f 4 + 1) % 3).toNat < 6 := by omega
  by_cases hqT : q = 3 * f + ((m0.1 6 f 4 + 1) % 3).toNat
  · subst hqT
    refine ⟨by rw [eN, r1, c1, s1], fun i hi => ?_⟩
    rw [eN, r1] at hi
    rw [eB _ (by omega) (by omega)]
    cases i with
    | zero =>
      rw [r3, c2, ← s1]
      refine congrArg zLs (zML_c fun i hi2 => ?_)
      rw [s2 i (by omega), ← eF]
    | succ k =>
      rw [r4 k (by omega), c3 k (by rw [← s1]; omega), s2 k (by omega), ← eF]
      rfl
  · obtain ⟨a1, a2, a3⟩ := r5 q hq hqT
    obtain ⟨d1, d2⟩ := c4 q hq hqT
    obtain ⟨g1, g2⟩ := h7 q hq
    refine ⟨by rw [eN, a2, d1, eK]; exact g1, fun i hi => ?_⟩
    rw [eN, a2] at hi
    have b := b7 q
    rw [eB _ (by omega) (by omega), a3 i (by omega), d2 i (by omega), eR]
    exact g2 i hi
theorem zNU_c {m ma : wm} {f : Nat} (hf : f < 2) (h : zNU m) (hr : zRec m ma (3 * f + ((m.1 6 f 4 + 1) % 3).toNat) f (m.1 6 f 4 + 1)) (hl : ma.1 6 f 4 = m.1 6 f 4 + 1) (ho : ∀ g, g ≠ f → ma.1 6 g 4 = m.1 6 g 4) : zNU ma := fun g hg a h1 h2 h3 => by
  obtain ⟨-, r2, -, -, r5⟩ := hr
  by_cases hgf : g = f
  · subst hgf
    rw [hl] at h3 ⊢
    by_cases ha : a = 0
    · subst ha
      rw [show m.1 6 g 4 + 1 - 0 = m.1 6 g 4 + 1 by omega]
      exact r2
    · rw [(r5 _ (by omega) (by omega)).1, show m.1 6 g 4 + 1 - a = m.1 6 g 4 - (a - 1) by omega]
      exact h g hg (a - 1) (by omega) (by omega) (by omega)
  · rw [ho g hgf] at h3 ⊢
    rw [(r5 _ (by omega) (by omega)).1]
    exact h g hg a h1 h2 h3
/-- the reference's next packet, told of another memory -/
theorem zSnd_c {m m' m1 : wm} {s : Nat} (e34 : m'.1 34 0 = m.1 34 0) (e42 : m'.1 42 0 = m.1 42 0) (e43 : m'.1 43 0 = m.1 43 0) (e44 : m'.1 44 0 = m.1 44 0) (e45 : m'.1 45 0 = m.1 45 0) (e46 : m'.1 46 0 = m.1 46 0) (h : zSnd m' m1 s) : zSnd m m1 s := by
  obtain ⟨t, g, f, v, p, a, b, j, ⟨z1, z2, z3, z4, z5, z6, z7⟩, z8⟩ := h
  have hK : ∀ q i, zKR m' q i = zKR m q i := fun q i => by unfold zKR zKI; rw [e44, e45]
  have hO : ∀ x, zRO m' x = zRO m x := fun x => by unfold zRO zRX zRF zRT zgr; rw [e42, e43, e44]
  refine ⟨t, g, f, v, p, a, b, j, ⟨?_, ?_, zLk_c e42 e43 e44 z3, ?_, z5, ?_, ?_⟩, ?_⟩
  · rw [e34, hO] at z1; exact z1
  · rw [e46, hO] at z2; exact z2
  · unfold zgr at z4 ⊢; rw [e43, e44] at z4; exact z4
  · rw [e46] at z6; exact z6
  · rw [e34] at z7; exact z7
  · unfold zSu at z8 ⊢; rw [e34, hK] at z8; exact z8
theorem zGo_s {N c g g0 : Int} (h : zGo N c g) (hN : 1 ≤ N) (hg : g0 = g ∧ g0 < N ∨ g0 = 0 ∧ N ≤ g) : c = g0 ∧ zGo N ((c + 1) % N) (g0 + 1) := by
  obtain ⟨h1, h2⟩ := h
  have e : c = g0 := by omega
  refine ⟨e, ?_⟩
  by_cases hc : c + 1 < N
  · rw [Int.emod_eq_of_lt (by omega) hc]
    exact ⟨by omega, Or.inl ⟨by omega, Or.inl hc⟩⟩
  · have e2 : c + 1 = N := by omega
    rw [e2, Int.emod_self]
    exact ⟨by decide, Or.inr ⟨by omega, rfl⟩⟩
theorem zCk_u {m : wm} {x y f w p f' w' p' : Int} (h : zCk m x y f w p) (h' : zCk m x y f' w' p') : f = f' ∧ w = w' ∧ p = p' := by
  obtain ⟨f0, f1, hx, hl, p0, p1, hy⟩ := h
  obtain ⟨f0', f1', hx', hl', p0', p1', hy'⟩ := h'
  have H0 : zPH m x 0 = 0 := (zPH_e m x 0).1 rfl
  have H1 : zPH m x 1 = zPH m x 0 + zPF m (0 : Int).toNat x := zPH_s m x 0 (by decide) (by decide)
  have n : ∀ F a, 0 ≤ zFP m F a := fun F a => zFP_nn m F a
  have C0 := zPF_c m (0 : Int).toNat x
  rw [← (zFP_c m f.toNat w).1 hl] at p1
  rw [← (zFP_c m f'.toNat w').1 hl'] at p1'
  rcases hx with ⟨rfl, w1, w2⟩ | ⟨rfl, rfl⟩
  · have I2 : ∀ F, zPI m 1 F 2 = 0 := fun F => zPI_0 m 1 F 2 (Or.inl ⟨rfl, rfl⟩)
    have I1 : ∀ F, zPI m 1 F 1 = zFP m F 2 := fun F => by
      have := zPI_s m 1 F 2 (Or.inl ⟨rfl, by decide, by decide⟩)
      rw [I2 F, Int.zero_add] at this
      exact this
    have a1 := n (0 : Int).toNat 1
    have a2 := n (0 : Int).toNat 2
    have b1 := n (1 : Int).toNat 1
    have b2 := n (1 : Int).toNat 2
    have i0 := I1 (0 : Int).toNat
    have i1 := I1 (1 : Int).toNat
    have j0 := I2 (0 : Int).toNat
    have j1 := I2 (1 : Int).toNat
    rcases (show f = 0 ∨ f = 1 by omega) with rfl | rfl <;> rcases (show f' = 0 ∨ f' = 1 by omega) with rfl | rfl <;> rcases (show w = 1 ∨ w = 2 by omega) with rfl | rfl <;> rcases (show w' = 1 ∨ w' = 2 by omega) with rfl | rfl <;> omega
  · have hw : w' = 0 := by omega
    subst hw
    have I0 : ∀ F, zPI m 0 F 0 = 0 := fun F => zPI_0 m 0 F 0 (Or.inr ⟨rfl, rfl⟩)
    have i0 := I0 (0 : Int).toNat
    have i1 := I0 (1 : Int).toNat
    have a1 := n (0 : Int).toNat 0
    have b1 := n (1 : Int).toNat 0
    rcases (show f = 0 ∨ f = 1 by omega) with rfl | rfl <;> rcases (show f' = 0 ∨ f' = 1 by omega) with rfl | rfl <;> omega
/-- both send the same -/
theorem zSend {c : Int} {m0 ma mb : wm} {s : Nat} (hG : zB c m0) (h1 : zE1 m0) (h2 : zE2 m0) (h7 : zE7 m0) (h8 : zE8 m0) (hN : zNU m0) (hx : zNxt m0 ma (3 + s)) (hy : zSnd m0 mb s) : ∃ l : List Int, l.length = 24 ∧ zBR ma (3 + s) = zLs l ∧ zSL mb s 24 l ∧ ma.1 3 0 3 = mb.1 34 0 15 % 4 ∧ zGo (zPO m0 0) (ma.1 5 0 0) (mb.1 46 0 1) ∧ zGo (zPO m0 1) (ma.1 5 0 1) (mb.1 46 0 0) := by
  have hE : ∀ q, q < 6 → zEP m0 q = zRT m0 q := fun q hq => by
    obtain ⟨a1, a2⟩ := h7 q hq
    have b : 0 ≤ m0.1 10 q 2 ∧ m0.1 10 q 2 ≤ 7 := hG.1 10 _ rfl q 2
    unfold zEP zRT
    rw [← a1]
    exact zTq_congr fun i hi => congrArg Prod.fst (a2 i (by omega))
  have hF : ∀ f a, f < 2 → zFP m0 f a = zRF m0 f a := fun f a hf => by
    unfold zFP zRF
    rw [h2 f hf]
    by_cases hq : 1 ≤ m0.1 42 0 f - a
    · rw [if_pos hq, if_pos hq, hE _ (by omega)]
    · rw [if_neg hq, if_neg hq]
  have hX1 : ∀ f, f < 2 → zPF m0 f 1 = zRX m0 f 0 := fun f hf => by
    rw [(zPF_c m0 f 1).1 rfl, (zRX_c m0 f 0).1 rfl, hF f 2 hf, hF f 1 hf]
  have hX0 : ∀ f, f < 2 → zPF m0 f 0 = zRX m0 f 1 := fun f hf => by
    rw [(zPF_c m0 f 0).2 rfl, (zRX_c m0 f 1).2 rfl, hF f 0 hf]
  have hO1 : zPO m0 1 = zRO m0 0 := by rw [zPO_e, zRO_e, hX1 0 (by decide), hX1 1 (by decide)]
  have hO0 : zPO m0 0 = zRO m0 1 := by rw [zPO_e, zRO_e, hX0 0 (by decide), hX0 1 (by decide)]
  obtain ⟨x, x1, x2, ⟨f, w, p, a, b, j, k1, k2, k3⟩, x4, x5, x6⟩ := hx
  obtain ⟨t, g, f', v, p', a', b', j', ⟨z1, z2, z3, z4, z5, z6, z7⟩, z8⟩ := hy
  obtain ⟨t1, t2, t3⟩ := h8
  have hxt : x = 0 ∧ t = 1 ∨ x = 1 ∧ t = 0 := by omega
  -- where it is in the sort
  have hgo : m0.1 5 0 x.toNat = g ∧ zGo (zPO m0 x) ((m0.1 5 0 x.toNat + 1) % zPO m0 x) (g + 1) := by
    rcases hxt with ⟨rfl, rfl⟩ | ⟨rfl, rfl⟩
    · exact zGo_s t2 x2 (by rw [hO0]; exact z2)
    · exact zGo_s t3 x2 (by rw [hO1]; exact z2)
  -- which version
  obtain ⟨q1, q2, q3, q4, q5, q6, q7, q8⟩ := z3
  have hf2 : f'.toNat < 2 := by omega
  have eL := h2 f'.toNat hf2
  have hck : zCk m0 x (m0.1 5 0 x.toNat) f' (m0.1 6 f'.toNat 4 - v) p' := by
    refine ⟨q1, q2, by omega, by omega, q6, ?_, ?_⟩
    · rw [show m0.1 6 f'.toNat 4 - (m0.1 6 f'.toNat 4 - v) = v by omega, hE _ (by omega)]
      exact q7
    · rw [hgo.1, q8]
      have eH : zRH m0 t f' = zPH m0 x f' := by
        rcases hxt with ⟨rfl, rfl⟩ | ⟨rfl, rfl⟩ <;> rcases (show f' = 0 ∨ f' = 1 by omega) with rfl | rfl
        · rw [(zRH_e m0 1 0).1 rfl, (zPH_e m0 0 0).1 rfl]
        · have a1 : zRH m0 1 1 = zRH m0 1 0 + zRX m0 (0 : Int).toNat 1 := zRH_s m0 1 0 (by decide) (by decide)
          have a2 : zPH m0 0 1 = zPH m0 0 0 + zPF m0 (0 : Int).toNat 0 := zPH_s m0 0 0 (by decide) (by decide)
          rw [a1, a2, (zRH_e m0 1 0).1 rfl, (zPH_e m0 0 0).1 rfl, hX0 _ (by decide)]
        · rw [(zRH_e m0 0 0).1 rfl, (zPH_e m0 1 0).1 rfl]
        · have a1 : zRH m0 0 1 = zRH m0 0 0 + zRX m0 (0 : Int).toNat 0 := zRH_s m0 0 0 (by decide) (by decide)
          have a2 : zPH m0 1 1 = zPH m0 1 0 + zPF m0 (0 : Int).toNat 1 := zPH_s m0 1 0 (by decide) (by decide)
          rw [a1, a2, (zRH_e m0 0 0).1 rfl, (zPH_e m0 1 0).1 rfl, hX1 _ (by decide)]
      have eJ : zRJ m0 t f'.toNat (m0.1 42 0 f'.toNat - v) = zPI m0 x f'.toNat (m0.1 6 f'.toNat 4 - v) := by
        rw [eL]
        have r := zRJ_c m0 t f'.toNat (m0.1 42 0 f'.toNat - v)
        have f2 := hF f'.toNat 2 hf2
        rcases hxt with ⟨rfl, rfl⟩ | ⟨rfl, rfl⟩
        · rw [show m0.1 42 0 f'.toNat - v = 0 by omega] at r ⊢
          rw [r.1 rfl (by decide), zPI_0 m0 0 f'.toNat 0 (Or.inr ⟨rfl, rfl⟩)]
        · have I2 := zPI_0 m0 1 f'.toNat 2 (Or.inl ⟨rfl, rfl⟩)
          have I1 : zPI m0 1 f'.toNat 1 = zPI m0 1 f'.toNat 2 + zFP m0 f'.toNat 2 := zPI_s m0 1 f'.toNat 2 (Or.inl ⟨rfl, by decide, by decide⟩)
          rcases (show m0.1 42 0 f'.toNat - v = 2 ∨ m0.1 42 0 f'.toNat - v = 1 by omega) with e | e
          · rw [e] at r ⊢
            rw [r.2.2.1 rfl (by decide), I2]
          · rw [e] at r ⊢
            rw [r.2.2.2.1 rfl rfl, I1, I2, f2, Int.zero_add]
      rw [eH, eJ]
  obtain ⟨u1, u2, u3⟩ := zCk_u k1 hck
  subst u1 u3
  have ev : m0.1 6 f.toNat 4 - w = v := by omega
  have hT : 3 * f.toNat + (v % 3).toNat < 6 := by omega
  obtain ⟨i1, i2⟩ := h7 _ hT
  rw [ev] at k2 k3
  -- which place
  rw [← i1] at z4
  obtain ⟨y1, y2, y3⟩ := zLo_u (fun i hi => congrArg Prod.fst (i2 i hi)) k2 z4
  subst y1 y2 y3
  have ha : (a.toNat : Int) < m0.1 10 (3 * f.toNat + (v % 3).toNat) 2 := by
    have := k2.1
    have := k2.2.1
    omega
  have hi := i2 a.toNat ha
  have hw2 : m0.1 10 (3 * f.toNat + (v % 3).toNat) 1 = v := by
    have := hN f.toNat (by omega) w (by omega) (by omega) (by omega)
    rw [ev] at this
    exact this
  have h1' : m0.1 3 0 2 = m0.1 34 0 14 := h1
  refine ⟨_, zPK_len, ?_, z8, ?_, ?_⟩
  · rw [k3]
    unfold zCu zSu
    rw [hw2, hi, h1']
  · omega
  · rcases hxt with ⟨rfl, rfl⟩ | ⟨rfl, rfl⟩
    · refine ⟨?_, ?_⟩
      · have e4 : ma.1 5 0 0 = (m0.1 5 0 0 + 1) % zPO m0 0 := x4
        have e5 : mb.1 46 0 1 = g + 1 := z5
        rw [e4, e5]; exact hgo.2
      · have e4 : ma.1 5 0 1 = m0.1 5 0 1 := x5
        have e5 : mb.1 46 0 0 = m0.1 46 0 0 := z6
        rw [e4, e5]; exact t3
    · refine ⟨?_, ?_⟩
      · have e4 : ma.1 5 0 0 = m0.1 5 0 0 := x5
        have e5 : mb.1 46 0 1 = m0.1 46 0 1 := z6
        rw [e4, e5]; exact t2
      · have e4 : ma.1 5 0 1 = (m0.1 5 0 1 + 1) % zPO m0 1 := x4
        have e5 : mb.1 46 0 0 = g + 1 := z5
        rw [e4, e5]; exact hgo.2
