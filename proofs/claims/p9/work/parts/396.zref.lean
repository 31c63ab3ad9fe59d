/-! The reference's kept versions and its slots, as rows and lists; the next packet of both sides. -/
def zKI (m : wm) (q : Nat) : zRc := zcut (m.1 44 0 q) (fun k => m.1 45 0 (104 * q + k))
def zKR (m : wm) (q i : Nat) : zRc := zKI m (7 * q + i)
theorem zKI_fr {e : Nat → Nat → Nat → Prop} {m m1 : wm} {q : Nat} (hf : zfr e m m1) (h1 : ¬ e 44 0 q) (h2 : ∀ k, k < 104 → ¬ e 45 0 (104 * q + k)) (b : m.1 44 0 q ≤ 104) : zKI m1 q = zKI m q :=
  zcut_eq (hf 44 0 q h1).1 fun k hk => (hf 45 0 (104 * q + k) (h2 k (by
    have h3 := (hf 44 0 q h1).1
    have hk2 : (k : Int) < m1.1 44 0 q := hk
    omega))).1
theorem zKI_w {m : wm} {q J : Nat} {X : Int} (h : J < 104 * q ∨ 104 * q + 104 ≤ J) (b : m.1 44 0 q ≤ 104) : zKI (wuI m 45 0 J X) q = zKI m q :=
  zcut_eq rfl fun k hk => wuI_nj (by
    have hk2 : (k : Int) < m.1 44 0 q := hk
    omega)
theorem zKI_s {m : wm} {q J : Nat} {X : Int} (h : J ≠ q) : zKI (wuI m 44 0 J X) q = zKI m q :=
  zcut_eq (wuI_nj (by omega)) fun k hk => rfl
theorem zKR_cp {m m0 : wm} {q i t F : Nat} (ht : t = 7 * q + (i + 1)) (hS : m.1 44 0 t = m0.1 40 0 F) (hC : ∀ j : Nat, (j : Int) < m.1 44 0 t → m.1 45 0 (104 * t + j) = m0.1 41 0 (96 * F + j)) : zKR m q (i + 1) = zDR m0 F := by
  subst ht
  exact zcut_eq hS hC
/-- the first so many bytes of a manifest -/
def zKL (m : wm) (B : Nat) (a : Int) (l : List Int) : Prop := a = (l.length : Int) ∧ ∀ k, k < l.length → m.1 45 0 (B + k) = l.getD k 0
theorem zKL_0 {m : wm} {B : Nat} : zKL m B 0 [] := ⟨rfl, fun k hk => absurd hk (Nat.not_lt_zero k)⟩
theorem zKL_t {m m1 : wm} {B : Nat} {a a' b : Int} {l : List Int} (h : zKL m B a l) (h1 : m1.1 45 0 (B + a.toNat) = b) (h2 : ∀ j, j ≠ B + a.toNat → m1.1 45 0 j = m.1 45 0 j) (ha : a' = a + 1) : zKL m1 B a' (l ++ [b]) := by
  have hl := h.1
  have e2 : a.toNat = l.length := by omega
  have e3 : (l ++ [b]).length = l.length + 1 := List.length_append
  refine ⟨by rw [e3]; omega, fun k hk => ?_⟩
  rw [e3] at hk
  by_cases hk2 : k < l.length
  · rw [h2 _ (by omega), h.2 k hk2, zgetD_l hk2]
  · have e : k = l.length := by omega
    have e4 : (l ++ [b]).getD l.length 0 = b := zgetD_r (l := l) (l' := [b]) (k := 0)
    rw [e, e4, ← e2]
    exact h1
theorem zKL_m {m m1 : wm} {B u u' : Nat} {a a' b : Int} {l : List Int} {g : Nat → Int} (h : zKL m B a (l ++ (List.range u).map g)) (h1 : m1.1 45 0 (B + a.toNat) = b) (h2 : ∀ j, j ≠ B + a.toNat → m1.1 45 0 j = m.1 45 0 j) (ha : a' = a + 1) (hb : b = g u) (hu : u' = u + 1) : zKL m1 B a' (l ++ (List.range u').map g) := by
  have h3 := zKL_t h h1 h2 ha
  rw [hb, List.append_assoc] at h3
  rw [hu, List.range_succ, List.map_append]
  exact h3
theorem zKL_n {m : wm} {B u : Nat} {a : Int} {l : List Int} {g : Nat → Int} (h : zKL m B a l) (hu : u = 0) : zKL m B a (l ++ (List.range u).map g) := by
  rw [hu]
  show zKL m B a (l ++ [])
  rw [List.append_nil]
  exact h
theorem zKL_e {m m1 : wm} {q : Nat} {a : Int} {l : List Int} (h : zKL m (728 * q) a l) (h1 : m1.1 44 0 (7 * q) = a) (h2 : ∀ j, m1.1 45 0 j = m.1 45 0 j) : zKR m1 q 0 = zLs l := by
  have ha := h.1
  refine zcut_eq (show m1.1 44 0 (7 * q + 0) = (l.length : Int) from h1.trans ha) fun k hk => ?_
  have hk2 : (k : Int) < m1.1 44 0 (7 * q) := hk
  show m1.1 45 0 (104 * (7 * q + 0) + k) = l.getD k 0
  rw [h2, show 104 * (7 * q + 0) + k = 728 * q + k by omega]
  exact h.2 k (by omega)
theorem zbs_cut {s : Int} {g : Nat → Int} : zbs (zcut s g) = (List.range s.toNat).map g := by
  show (List.range s.toNat).map (zcut s g).2 = (List.range s.toNat).map g
  refine List.map_congr_left fun u hu => ?_
  have h2 := List.mem_range.mp hu
  exact zcut_2 (by omega)
theorem zhh_cut {s : Int} {g : Nat → Int} : zhh (zcut s g).2 s.toNat = zhh g s.toNat := zhh_c fun k hk => zcut_2 (by omega)
/-- one more file of a manifest, as the reference tells it -/
theorem zML_r {v n : Int} {F : Nat → zRc × zRc} {k g : Nat} {m : wm} (hF : F k = zFR m g) : (((zML v n F k ++ [m.1 38 0 g]) ++ (List.range (m.1 38 0 g).toNat).map (fun u => m.1 39 0 (6 * g + u))) ++ [m.1 40 0 g]) ++ (List.range 8).map (fun u : Nat => zb8 (zhh (fun u => m.1 41 0 (96 * g + u)) (m.1 40 0 g).toNat) (8 * (7 - (u : Int)))) = zML v n F (k + 1) := by
  show _ = (((zML v n F k ++ [(F k).1.1]) ++ zbs (F k).1) ++ [(F k).2.1]) ++ zbl (zhh (F k).2.2 (F k).2.1.toNat) 8
  rw [hF]
  show _ = (((zML v n F k ++ [m.1 38 0 g]) ++ zbs (zcut (m.1 38 0 g) (fun u => m.1 39 0 (6 * g + u)))) ++ [m.1 40 0 g]) ++ zbl (zhh (zcut (m.1 40 0 g) (fun u => m.1 41 0 (96 * g + u))).2 (m.1 40 0 g).toNat) 8
  rw [zbs_cut, zhh_cut]
  rfl
/-- what was found -/
def zFd (m : wm) (f v a b j : Int) : Prop := m.1 49 0 0 = f ∧ m.1 49 0 1 = v ∧ m.1 49 0 2 = a ∧ m.1 49 0 3 = b ∧ m.1 49 0 4 = j
/-- which version a place is of: the reference -/
def zLk (m : wm) (t y f v p : Int) : Prop := 0 ≤ f ∧ f ≤ 1 ∧ 1 ≤ v ∧ v ≤ 1000 ∧ (t = 1 ∧ v = m.1 42 0 f.toNat ∨ t = 0 ∧ m.1 42 0 f.toNat - 2 ≤ v ∧ v < m.1 42 0 f.toNat) ∧ 0 ≤ p ∧ p < zRT m (3 * f.toNat + (v % 3).toNat) ∧ y = zRH m t f + zRJ m t f.toNat (m.1 42 0 f.toNat - v) + p
def zLK (m m1 : wm) (t y : Int) : Prop := ∃ f v p a b j : Int, zLk m t y f v p ∧ zLo (zgr m (3 * f.toNat + (v % 3).toNat)) (m.1 43 0 (3 * f.toNat + (v % 3).toNat)) p a b j ∧ zFd m1 f v a b j
theorem zLk_c {m m' : wm} {t y f v p : Int} (e2 : m'.1 42 0 = m.1 42 0) (e3 : m'.1 43 0 = m.1 43 0) (e4 : m'.1 44 0 = m.1 44 0) (h : zLk m' t y f v p) : zLk m t y f v p := by
  unfold zLk zRJ zRH zRO zRX zRF zRT zgr at h ⊢
  rw [e2, e3, e4] at h
  exact h
theorem zLK_c {m m' m1 : wm} {t y : Int} (e2 : m'.1 42 0 = m.1 42 0) (e3 : m'.1 43 0 = m.1 43 0) (e4 : m'.1 44 0 = m.1 44 0) (h : zLK m' m1 t y) : zLK m m1 t y := by
  obtain ⟨f, v, p, a, b, j, h1, h2, h3⟩ := h
  refine ⟨f, v, p, a, b, j, zLk_c e2 e3 e4 h1, ?_, h3⟩
  unfold zgr at h2 ⊢
  rw [e3, e4] at h2
  exact h2
/-- a slot's first bytes -/
def zSL (m : wm) (s : Nat) (a : Int) (l : List Int) : Prop := a = (l.length : Int) ∧ ∀ k, k < l.length → m.1 47 0 (24 * s + k) = l.getD k 0
theorem zSL_0 {m : wm} {s : Nat} : zSL m s 0 [] := ⟨rfl, fun k hk => absurd hk (Nat.not_lt_zero k)⟩
theorem zSL_y {e : Nat → Nat → Nat → Prop} {m m1 : wm} {s : Nat} {l : List Int} {q a a' y : Int} {v : Int64} (h : zSL m s a l) (hf : zfr e m m1) (he : ∀ j, j < (24 * q + a).toNat → ¬ e 47 0 j) (hp : ∀ u : Nat, (u : Int) < y → m1.1 47 0 ((24 * q + a).toNat + u) = zb8 v (8 * (y - 1 - (u : Int)))) (hq : q = (s : Int)) (hy : 0 ≤ y) (ha : a' = a + y) : zSL m1 s a' (l ++ zbl v y.toNat) := by
  have hl := h.1
  have e3 : (l ++ zbl v y.toNat).length = l.length + y.toNat := by rw [List.length_append, zbl_len]
  refine ⟨by rw [e3]; omega, fun k hk => ?_⟩
  rw [e3] at hk
  by_cases hk2 : k < l.length
  · rw [(hf 47 0 (24 * s + k) (he _ (by omega))).1, zgetD_l hk2]
    exact h.2 k hk2
  · have e1 : k = l.length + (k - l.length) := by omega
    have h4 := hp (k - l.length) (by omega)
    rw [show (24 * q + a).toNat + (k - l.length) = 24 * s + k by omega] at h4
    rw [h4, e1, zgetD_r, zbl_at (by omega), show l.length + (k - l.length) - l.length = k - l.length by omega, Int.toNat_of_nonneg hy]
/-- the reference's next packet -/
def zSu (m : wm) (q : Nat) (v a b j : Int) : Int64 := zsm (zKR m q a.toNat).2 (zmk v a b j (zpc (zKR m q a.toNat).1 b)) b (zpc (zKR m q a.toNat).1 b).toNat
def zSz (m0 m : wm) (t g f v p a b j : Int) : Prop := (t = 0 ∧ m0.1 34 0 15 % 4 = 3 ∧ 1 ≤ zRO m0 0 ∨ t = 1 ∧ (m0.1 34 0 15 % 4 ≠ 3 ∨ zRO m0 0 < 1)) ∧ (g = m0.1 46 0 t.toNat ∧ g < zRO m0 t ∨ g = 0 ∧ zRO m0 t ≤ m0.1 46 0 t.toNat) ∧ zLk m0 t g f v p ∧ zLo (zgr m0 (3 * f.toNat + (v % 3).toNat)) (m0.1 43 0 (3 * f.toNat + (v % 3).toNat)) p a b j ∧ m.1 46 0 t.toNat = g + 1 ∧ m.1 46 0 (1 - t).toNat = m0.1 46 0 (1 - t).toNat ∧ m.1 34 0 15 = m0.1 34 0 15 + 1
def zSnd (m0 m1 : wm) (s : Nat) : Prop := ∃ t g f v p a b j : Int, zSz m0 m1 t g f v p a b j ∧ zSL m1 s 24 (zPK (m0.1 34 0 14) f v a b j (zKR m0 (3 * f.toNat + (v % 3).toNat) a.toNat).1 (zSu m0 (3 * f.toNat + (v % 3).toNat) v a b j))
/-- the reference's commit -/
def zRcm (m0 m1 : wm) (f : Nat) : Prop := m1.1 43 0 (3 * f + ((m0.1 42 0 f + 1) % 3).toNat) = m0.1 37 0 f + 1 ∧ zKR m1 (3 * f + ((m0.1 42 0 f + 1) % 3).toNat) 0 = zLs (zML (m0.1 42 0 f + 1) (m0.1 37 0 f) (fun i : Nat => zFR m0 (6 * f + i)) (m0.1 37 0 f).toNat) ∧ (∀ i : Nat, (i : Int) < m0.1 37 0 f → zKR m1 (3 * f + ((m0.1 42 0 f + 1) % 3).toNat) (i + 1) = zDR m0 (6 * f + i)) ∧ (∀ q, q < 6 → q ≠ 3 * f + ((m0.1 42 0 f + 1) % 3).toNat → m1.1 43 0 q = m0.1 43 0 q ∧ ∀ i, i < 7 → zKR m1 q i = zKR m0 q i) ∧ m1.1 34 0 15 = 0 ∧ m1.1 46 0 0 = 0 ∧ m1.1 46 0 1 = 0
/-- the class's next packet, its commit -/
def zEq (m0 m1 : wm) (q : Nat) : Prop := m1.1 10 q 1 = m0.1 10 q 1 ∧ m1.1 10 q 2 = m0.1 10 q 2 ∧ ∀ i, i < 7 → zBR m1 (59 + 7 * q + i) = zBR m0 (59 + 7 * q + i)
def zRec (m0 m1 : wm) (t s : Nat) (x : Int) : Prop := m1.1 10 t 2 = m0.1 6 s 3 + 1 ∧ m1.1 10 t 1 = x ∧ zBR m1 (59 + 7 * t + 0) = zLs (zML x (m0.1 6 s 3) (zCF m0 s) (m0.1 6 s 3).toNat) ∧ (∀ q : Nat, (q : Int) < m0.1 6 s 3 → zBR m1 (59 + 7 * t + (q + 1)) = (zCF m0 s q).2) ∧ ∀ q, q < 6 → q ≠ t → zEq m0 m1 q
theorem zRec_w {m m1 : wm} {t s i : Nat} {x X : Int} (h : zRec (wuI m 6 i 4 X) m1 t s x) : zRec m m1 t s x := by
  have e : (wuI m 6 i 4 X).1 6 s 3 = m.1 6 s 3 := wuI_nj (by omega)
  unfold zRec at h ⊢
  rw [e] at h
  exact h
theorem zRec_fr {e : Nat → Nat → Nat → Prop} {m0 m m1 : wm} {t s : Nat} {x : Int} (h : zRec m0 m t s x) (hf : zfr e m m1) (h1 : ∀ k i j, k = 1 ∨ k = 2 ∨ k = 10 → ¬ e k i j) : zRec m0 m1 t s x := by
  have hB : ∀ R, zBR m1 R = zBR m R := fun R => zBR_fr hf (h1 1 R 1 (Or.inl rfl)) (fun j => h1 2 R j (Or.inr (Or.inl rfl)))
  have hT : ∀ i j, m1.1 10 i j = m.1 10 i j := fun i j => (hf 10 i j (h1 10 i j (Or.inr (Or.inr rfl)))).1
  obtain ⟨a1, a2, a3, a4, a5⟩ := h
  exact ⟨(hT t 2).trans a1, (hT t 1).trans a2, (hB _).trans a3, fun q hq => (hB _).trans (a4 q hq), fun q hq hn => ⟨(hT q 1).trans (a5 q hq hn).1, (hT q 2).trans (a5 q hq hn).2.1, fun i hi => (hB _).trans ((a5 q hq hn).2.2 i hi)⟩⟩
def zCu (m : wm) (q : Nat) (v a b j : Int) : Int64 := zsm (zBR m (59 + 7 * q + a.toNat)).2 (zmk v a b j (zpc (zBR m (59 + 7 * q + a.toNat)).1 b)) b (zpc (zBR m (59 + 7 * q + a.toNat)).1 b).toNat
def zCk (m : wm) (x y f w p : Int) : Prop := 0 ≤ f ∧ f ≤ 1 ∧ (x = 1 ∧ 1 ≤ w ∧ w ≤ 2 ∨ x = 0 ∧ w = 0) ∧ 1 ≤ m.1 6 f.toNat 4 - w ∧ 0 ≤ p ∧ p < zEP m (3 * f.toNat + ((m.1 6 f.toNat 4 - w) % 3).toNat) ∧ y = zPH m x f + zPI m x f.toNat w + p
def zFil (m0 m1 : wm) (s : Nat) (x y l : Int) : Prop := ∃ f w p a b j : Int, zCk m0 x y f w p ∧ zLo (zge m0 (3 * f.toNat + ((m0.1 6 f.toNat 4 - w) % 3).toNat)) (m0.1 10 (3 * f.toNat + ((m0.1 6 f.toNat 4 - w) % 3).toNat) 2) p a b j ∧ zBR m1 s = zLs (zPK l f (m0.1 10 (3 * f.toNat + ((m0.1 6 f.toNat 4 - w) % 3).toNat) 1) a b j (zBR m0 (59 + 7 * (3 * f.toNat + ((m0.1 6 f.toNat 4 - w) % 3).toNat) + a.toNat)).1 (zCu m0 (3 * f.toNat + ((m0.1 6 f.toNat 4 - w) % 3).toNat) (m0.1 10 (3 * f.toNat + ((m0.1 6 f.toNat 4 - w) % 3).toNat) 1) a b j))
def zNxt (m0 m1 : wm) (s : Nat) : Prop := ∃ x : Int, (x = 1 ∧ m0.1 3 0 3 = 3 ∧ 1 ≤ zPO m0 1 ∨ x = 0 ∧ (m0.1 3 0 3 ≠ 3 ∨ zPO m0 1 < 1)) ∧ 1 ≤ zPO m0 x ∧ zFil m0 m1 s x (m0.1 5 0 x.toNat) (m0.1 3 0 2) ∧ m1.1 5 0 x.toNat = (m0.1 5 0 x.toNat + 1) % zPO m0 x ∧ m1.1 5 0 (1 - x).toNat = m0.1 5 0 (1 - x).toNat ∧ m1.1 3 0 3 = (m0.1 3 0 3 + 1) % 4
theorem wxor_and {X Y : Int} (h : 0 ≤ X ∧ X ≤ 255) : wand (wxor X Y) 255 = wxor X (wand Y 255) := by
  have e1 : wi (wxor X Y) = wi X ^^^ wi Y := Int32.ofInt_toInt _
  have e2 : wi (wand Y 255) = wi Y &&& wi 255 := Int32.ofInt_toInt _
  have e3 : wi X &&& wi 255 = wi X := by
    have h1 := wand_m255 X
    rw [show X % 256 = X by omega] at h1
    have h2 : wi (wand X 255) = wi X &&& wi 255 := Int32.ofInt_toInt _
    rw [← h2, h1]
  have e4 : (wi X ^^^ wi Y) &&& wi 255 = (wi X &&& wi 255) ^^^ (wi Y &&& wi 255) := by
    apply Int32.toBitVec.inj
    show ((wi X).toBitVec ^^^ (wi Y).toBitVec) &&& (wi 255).toBitVec = ((wi X).toBitVec &&& (wi 255).toBitVec) ^^^ ((wi Y).toBitVec &&& (wi 255).toBitVec)
    apply BitVec.eq_of_getLsbD_eq
    intro i _
    rw [BitVec.getLsbD_and, BitVec.getLsbD_xor, BitVec.getLsbD_xor, BitVec.getLsbD_and, BitVec.getLsbD_and]
    cases (wi X).toBitVec.getLsbD i <;> cases (wi Y).toBitVec.getLsbD i <;> cases (wi 255).toBitVec.getLsbD i <;> rfl
  show (wi (wxor X Y) &&& wi 255).toInt = (wi X ^^^ wi (wand Y 255)).toInt
  rw [e1, e2, e4, e3]
