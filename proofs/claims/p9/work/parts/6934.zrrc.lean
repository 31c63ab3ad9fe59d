/-! Both receivers side by side: over the law's calls. -/
def zEA (m : wm) : Prop := zRR m m ∧ m.1 19 0 5 = m.1 34 0 21 ∧ m.1 19 0 6 = m.1 34 0 35
theorem zEA_fr {e : Nat → Nat → Nat → Prop} {m m1 : wm} (h : zEA m) (F : zfr e m m1) (h1 : ∀ k j, 22 ≤ k → k ≤ 25 → ¬ e k 0 j) (h2 : ∀ t j, t < 8 → j = 7 ∨ j = 9 ∨ j = 10 → ¬ e 26 t j) (h3 : ∀ k t j, t < 8 → 28 ≤ k → k ≤ 33 → ¬ e k t j) (h4 : ∀ i j, 101 ≤ i → i < 157 → ¬ e 1 i 1 ∧ ¬ e 2 i j) (h5 : ¬ e 34 0 30) (h6 : ∀ k j, 50 ≤ k → k ≤ 61 → k ≠ 53 → ¬ e k 0 j) (h7 : ¬ e 19 0 5 ∧ ¬ e 19 0 6 ∧ ¬ e 34 0 21 ∧ ¬ e 34 0 35) : zEA m1 := by
  obtain ⟨r, l, d⟩ := h
  refine ⟨zRR_fb (zRR_fa r F h1 h2 h3 h4) F h5 h6, ?_, ?_⟩
  · rw [(F 19 0 5 h7.1).1, (F 34 0 21 h7.2.2.1).1]; exact l
  · rw [(F 19 0 6 h7.2.1).1, (F 34 0 35 h7.2.2.2).1]; exact d
/-- what a slot has, on both sides -/
theorem zE9_q {m mb : wm} {x : Int} (h : zE9 m) (hx : 0 ≤ x ∧ x ≤ 31) (hf : m.1 48 0 x.toNat = 1) (e : ∀ j, mb.1 47 0 j = m.1 47 0 j) : zSq m mb (3 + x.toNat) x := fun k k0 k1 => by
  have z := h x.toNat (by omega) hf
  have z1 : m.1 1 (3 + x.toNat) 1 = 24 := congrArg Prod.fst z
  have z2 := congrFun (congrArg Prod.snd z) k.toNat
  rw [show (zBR m (3 + x.toNat)).2 k.toNat = m.1 2 (3 + x.toNat) k.toNat from zcut_2 (by omega), show (zcut 24 (fun k => m.1 47 0 (24 * x.toNat + k))).2 k.toNat = m.1 47 0 (24 * x.toNat + k.toNat) from zcut_2 (by omega)] at z2
  unfold zBat zsl
  rw [if_pos ⟨k0, by omega⟩, z2, e, show (24 * x + k).toNat = 24 * x.toNat + k.toNat by omega]
/-- all rows lost on both sides -/
theorem zEA_rr {m ma mb : wm} (h : zEA m) (Fa : zfr (fun k i j => (k = 22 ∧ j = 3)) m ma) (ha : ma.1 22 0 3 = 0) (hb : zRs0 ma mb) {e : Nat → Nat → Nat → Prop} (Fb : zfr e ma mb) (he : ∀ k i j, e k i j → 34 ≤ k ∧ (k = 34 → j = 0 ∨ j = 30)) : zEA mb := by
  obtain ⟨r, l, d⟩ := h
  obtain ⟨md, g1, g2, g3, g4⟩ := hb
  have r0 : zRR m ma := zRR_fb r Fa (by omega) (fun k j k1 k2 k3 => by omega)
  have r1 : zR0 ma md := zRR_nil r0 (zfr_tr zfr_rf Fa (fun k i j z => Or.inl z)) ha g1 (fun k j z => by omega) g2
  have r2 : zRR ma mb := zR0_us r1 g3 g4
  have n : ∀ k i j, k < 34 → ¬ e k i j := fun k i j hk z => by have := (he k i j z).1; omega
  refine ⟨zRR_fa r2 Fb (fun k j k1 k2 => n k 0 j (by omega)) (fun t j _ _ => n 26 t j (by omega)) (fun k t j _ k1 k2 => n k t j (by omega)) (fun i j _ _ => ⟨n 1 i 1 (by omega), n 2 i j (by omega)⟩), ?_, ?_⟩
  · rw [(Fb 19 0 5 (n 19 0 5 (by omega))).1, (Fa 19 0 5 (by omega)).1, (Fb 34 0 21 (fun z => by have := (he _ _ _ z).2 rfl; omega)).1, (Fa 34 0 21 (by omega)).1]; exact l
  · rw [(Fb 19 0 6 (n 19 0 6 (by omega))).1, (Fa 19 0 6 (by omega)).1, (Fb 34 0 35 (fun z => by have := (he _ _ _ z).2 rfl; omega)).1, (Fa 34 0 35 (by omega)).1]; exact d
def zLsO (m m1 : wm) (s : Nat) (y : Int) : Prop := ∃ m9, zLsn m m9 s y ∧ zfr (fun k i j => (k = 73)) m9 m1
/-- a packet heard on both sides -/
theorem zEA_h {c : Int} {m m9 ma mb : wm} {x y r : Int} {ea eb eo : Nat → Nat → Nat → Prop} (h : zEA m) (hG : zB c m) (h9 : zE9 m) (hx : 0 ≤ x ∧ x ≤ 31) (hf : m.1 48 0 x.toNat = 1) (ha : zLsn m m9 (3 + x.toNat) y) (Fa : zfr ea m ma) (na : ∀ k i j, 34 ≤ k → k ≤ 61 → ¬ ea k i j) (Fo : zfr eo m9 ma) (no : ∀ k i j, k < 73 → ¬ eo k i j) (hb : zHear ma mb x r) (Fb : zfr eb ma mb) (nb : ∀ k i j, k < 34 → ¬ eb k i j) : y = r ∧ zEA mb := by
  obtain ⟨q, l, d⟩ := h
  have r0 : zRR m ma := zRR_fb q Fa (na 34 0 30 (by omega) (by omega)) (fun k j k1 k2 k3 => na k 0 j (by omega) (by omega))
  obtain ⟨z1, z2, z3, z4⟩ := zst_H r0 (by rw [(Fa 34 0 21 (na _ _ _ (by omega) (by omega))).1]; exact l) (by rw [(Fa 34 0 35 (na _ _ _ (by omega) (by omega))).1]; exact d) (by omega) hx.1 (zE9_q h9 hx hf (fun j => (Fa 47 0 j (na _ _ _ (by omega) (by omega))).1)) (fun k => zBat_rg hG _ k) ha hb
  have o : ∀ k i j, k < 34 → mb.1 k i j = m9.1 k i j := fun k i j hk => ((Fb k i j (nb k i j hk)).1).trans (Fo k i j (no k i j (by omega))).1
  refine ⟨z1, zRR_fa (zRR_fa z2 Fo (fun k j k1 k2 => no k 0 j (by omega)) (fun t j _ _ => no 26 t j (by omega)) (fun k t j _ k1 k2 => no k t j (by omega)) (fun i j _ _ => ⟨no 1 i 1 (by omega), no 2 i j (by omega)⟩)) Fb (fun k j k1 k2 => nb k 0 j (by omega)) (fun t j _ _ => nb 26 t j (by omega)) (fun k t j _ k1 k2 => nb k t j (by omega)) (fun i j _ _ => ⟨nb 1 i 1 (by omega), nb 2 i j (by omega)⟩), ?_, ?_⟩
  · rw [o 19 0 5 (by omega)]; exact z3
  · rw [o 19 0 6 (by omega)]; exact z4
/-- a rank asked of both -/
theorem zEA_k {m ma mf : wm} {x y z b r r' : Int} {ea : Nat → Nat → Nat → Prop} (h : zEA m) (hk : 0 ≤ x ∧ x ≤ 1 ∧ 1 ≤ y ∧ y ≤ 65535 ∧ 0 ≤ z ∧ z ≤ 6 ∧ 0 ≤ b ∧ b ≤ 1) (ha : zRof m x y z b r) (Fa : zfr ea m ma) (na : ∀ k i j, 34 ≤ k → k ≤ 61 → ¬ ea k i j) (Ff : zfr (fun k i j => (k = 34 ∧ j = 0)) ma mf) (hb : zRkR mf x y z b r') : r = r' :=
  zst_rk (zRR_fb (zRR_fb h.1 Fa (na 34 0 30 (by omega) (by omega)) (fun k j k1 k2 k3 => na k 0 j (by omega) (by omega))) Ff (by omega) (fun k j k1 k2 k3 => by omega)) ⟨hk.1, hk.2.1⟩ hk.2.2.1 ⟨hk.2.2.2.2.1, hk.2.2.2.2.2.1⟩ hk.2.2.2.2.2.2 ha hb
theorem zEA_u {c : Int} {m : wm} (h : zEA m) (hG : zB c m) : m.1 22 0 3 = m.1 34 0 30 := by
  have u := zused h.1.1
  have b1 : 0 ≤ m.1 22 0 3 ∧ m.1 22 0 3 ≤ 24 := hG.1 22 _ rfl _ _
  have b2 : 0 ≤ m.1 34 0 30 ∧ m.1 34 0 30 ≤ 24 := hG.1 34 _ rfl _ _
  omega
theorem zEA_e {m : wm} (h : zEA m) : zCe m ∧ zRb m := ⟨h.1.1.2.2.2.2.1, h.1.1.2.2.2.2.2.1⟩
/-- at the beginning -/
theorem zEA_0 {m : wm} (h26 : ∀ t j, m.1 26 t j = 0) (h22 : m.1 22 0 3 = 0) (h50 : ∀ k j, k = 50 ∨ k = 51 ∨ k = 55 ∨ k = 57 → m.1 k 0 j = 0) (h30 : m.1 34 0 30 = 0) (h54 : ∀ q, q < 56 → m.1 54 0 q = -1) (h19 : m.1 19 0 5 = m.1 34 0 21) (h6 : m.1 19 0 6 = m.1 34 0 35) : zEA m := by
  have la : zLC m = [] := by unfold zLC zCu0; rw [h22]; rfl
  have lb : zLR m = [] := by unfold zLR zRu; rw [h30]; rfl
  have nh : ∀ q, ¬ zHas m q := fun q z => by
    rcases zHas_L.1 z with y | y | ⟨r, r1, -⟩
    · rw [h50 55 _ (by omega)] at y; omega
    · rw [h50 55 _ (by omega)] at y; omega
    · rw [lb] at r1; exact absurd r1 List.not_mem_nil
  have k0 : ∀ p, m.1 50 0 p = 0 := fun p => h50 50 p (by omega)
  refine ⟨⟨⟨⟨fun p _ => ⟨by rw [k0]; omega, fun _ => Or.inl (k0 p)⟩, fun t _ => by show 0 ≤ m.1 26 t 7; rw [h26]; omega, fun t t' _ _ _ _ z => absurd (h26 t 7) z, fun t _ z => absurd (h26 t 7) z, fun p _ z => absurd (k0 p) z⟩, fun t p hp => absurd (k0 p) hp.2.2.2.2, by rw [la, lb]; exact zRw2_0, fun q bk hq => absurd (k0 _) hq.2.2.2.2, zCe_0 h22, zRb_0 h30, fun q _ z => absurd z (nh q), fun t _ _ => h26 t 9, fun p _ _ => ⟨h50 51 p (by omega), fun i _ => h50 57 _ (by omega)⟩⟩, fun q hq _ => h54 q hq⟩, h19, h6⟩
