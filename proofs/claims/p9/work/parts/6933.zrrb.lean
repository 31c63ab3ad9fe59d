/-! Both receivers side by side: what both answer to a packet. -/
theorem zst_hash {a b : wm} {s : Nat} {q : Int} (hq : 0 ≤ q) (hs : zSq a b s q) : zHsh a s ↔ zHsR b q := by
  have e : ∀ k : Nat, k < 24 → (zBR a s).2 k = b.1 47 0 (24 * q.toNat + k) := fun k hk => by
    rw [zBR_b, hs (k : Int) (by omega) (by omega)]
    unfold zsl
    rw [show (24 * q + (k : Int)).toNat = 24 * q.toNat + k by omega]
  unfold zHsh zHsR
  rw [zhh_c (g := (zBR a s).2) (g' := fun k : Nat => b.1 47 0 (24 * q.toNat + k)) (n := 16) (fun k hk => e k (by omega)), zen_c (g := fun k => (zBR a s).2 (16 + k)) (g' := fun k : Nat => b.1 47 0 (24 * q.toNat + 16 + k)) (n := 8) (fun k hk => by show (zBR a s).2 (16 + k) = _; rw [e (16 + k) (by omega), Nat.add_assoc])]
theorem zsl_fr {e : Nat → Nat → Nat → Prop} {b b1 : wm} {q : Int} (F : zfr e b b1) (h : ∀ j, ¬ e 47 0 j) (k : Int) : zsl b1 q k = zsl b q k := (F 47 0 _ (h _)).1
theorem zst_drop {m a1 bm b1 : wm} (h : zRR m bm) (hl : m.1 19 0 5 = bm.1 34 0 21) (hd : m.1 19 0 6 = bm.1 34 0 35) (F : zfr (fun k i j => (k = 19 ∧ j = 6)) m a1) (e : a1.1 19 0 6 = m.1 19 0 6 + 1) (hb : zDp bm b1) : zRR a1 b1 ∧ a1.1 19 0 5 = b1.1 34 0 21 ∧ a1.1 19 0 6 = b1.1 34 0 35 := by
  refine ⟨zRR_fb (zRR_fa h F (fun k j k1 k2 => by omega) (fun t j ht hj => by omega) (fun k t j ht k1 k2 => by omega) (fun i j i1 i2 => ⟨by omega, by omega⟩)) hb.1 (by omega) (fun k j k1 k2 k3 => by omega), ?_, ?_⟩
  · rw [(F 19 0 5 (by omega)).1, (hb.1 34 0 21 (by omega)).1]; exact hl
  · rw [e, hb.2, hd]
/-- up to the life -/
theorem zst_f1 {a ma b ml : wm} {s : Nat} {q : Int} (h : zRR a b) (hl : a.1 19 0 5 = b.1 34 0 21) (hd : a.1 19 0 6 = b.1 34 0 35) (hs : zSq a b s q) (w : zW1 a ma s) (hb : zH2 b ml q) : zRR ma ml ∧ ma.1 19 0 5 = ml.1 34 0 21 ∧ ma.1 19 0 6 = ml.1 34 0 35 ∧ (∀ k, zBat ma s k = zBat a s k) ∧ ∀ k, zsl ml q k = zsl b q k := by
  obtain ⟨w1, w2, w3⟩ := w
  obtain ⟨mf, ⟨f1, f2, f3⟩, g⟩ := hb
  have ef : ∀ k, zsl mf q k = zsl b q k := fun k => zsl_fr f1 (fun j => by omega) k
  have r0 : zRR a mf := zRR_fb h f1 (by omega) (fun k j k1 k2 k3 => by omega)
  have z := zst_life r0 (by rw [hl, (f1 34 0 21 (by omega)).1]) (by rw [hs 0 (by decide) (by decide), ef]) w2 g
  refine ⟨z.1, z.2, ?_, fun k => zBat_n w2 k, fun k => ?_⟩
  · rw [(w2.1 19 0 6 (by omega)).1, hd, ← (f1 34 0 35 (by omega)).1]
    rcases g with ⟨-, rfl⟩ | ⟨-, md, g2, -, -, g5, -⟩
    · rfl
    · rw [(g5 34 0 35 (by unfold zeS; omega)).1, (g2 34 0 35 (by omega)).1]
  · rw [← ef]
    rcases g with ⟨-, rfl⟩ | ⟨-, md, g2, -, -, g5, -⟩
    · rfl
    · rw [zsl_fr g5 (fun j => by unfold zeS; omega), zsl_fr g2 (fun j => by omega)]
/-- up to the version -/
theorem zst_f2 {ma m ml mh : wm} {s u : Nat} {q p : Int} (h : zRR ma ml) (hs3 : s < 101) (hq : 0 ≤ q) (hs : zSq ma ml s q) (hr : ∀ k, 0 ≤ zBat ma s k ∧ zBat ma s k ≤ 255) (hc : zCbR ml q) (w : zLea ma m (zBat ma s 1) (256 * zBat ma s 2 + zBat ma s 3) u) (hb : zHe2 ml mh q p) : zRR m mh ∧ zCx m mh s u p.toNat q ∧ zc2 ma m ∧ zg2 ml mh ∧ 0 ≤ p ∧ (∀ k, zBat m s k = zBat ma s k) ∧ ∀ k, zsl mh q k = zsl ml q k := by
  have e1 := hs 1 (by decide) (by decide)
  have e2 := hs 2 (by decide) (by decide)
  have e3 := hs 3 (by decide) (by decide)
  have e4 := hs 4 (by decide) (by decide)
  have e5 := hs 5 (by decide) (by decide)
  have e6 := hs 6 (by decide) (by decide)
  have e7 := hs 7 (by decide) (by decide)
  have b1 := hr 1
  have b4 := hr 4
  have b5 := hr 5
  have b6 := hr 6
  have b7 := hr 7
  obtain ⟨c1, c2, c3, c4, c5, c6, c7⟩ := hc
  obtain ⟨f1, f2, f3⟩ := hb
  have eb : ∀ k, zBat m s k = zBat ma s k := fun k => zBat_w w hs3 k
  have es : ∀ k, zsl mh q k = zsl ml q k := fun k => zsl_fr f1 (fun j => by unfold zeH; omega) k
  rw [e1, e2, e3] at w
  obtain ⟨z1, z2⟩ := zst_hears h ⟨by omega, c1⟩ c2 w f2 f3
  have hn : m.1 26 u 7 = 256 * zBat m s 2 + zBat m s 3 := by
    rw [eb, eb, e2, e3]
    rcases w.2.2 with y | y
    · rw [← y.2]; exact y.1
    · exact y.2.2.2.1
  refine ⟨z1, ⟨z2, fun k k0 k1 => by rw [eb, es]; exact hs k k0 k1, hn, by rw [eb, e1]; omega, ?_, ?_, ?_, ?_, ?_, hq⟩, zc2_f w.2.1 ⟨by unfold zLe0; omega, by unfold zLe0; omega⟩, zg2_f f1 ⟨by unfold zeH; omega, by unfold zeH; omega⟩, by omega, eb, es⟩
  · rw [es]; omega
  · rw [es]; omega
  · rw [es]; omega
  · rw [es, es]; omega
  · rw [es]; omega
/-- the packet after room was made -/
theorem zst_f3 {m m1 mh mr : wm} {s u p : Nat} {q : Int} (h : zRR m mh) (hx : zCx m mh s u p q) (ha : zWrx m m1) (hb : zRm mh mr 1) (hT : ¬ zTo mh q (p : Int) (zsl mh q 4) (zsl mh q 5)) : zRR m1 mr ∧ zCx m1 mr s u p q ∧ zCy mr p q ∧ zc2 m m1 ∧ zg2 mh mr ∧ (∀ k, zBat m1 s k = zBat m s k) ∧ (∀ k, zsl mr q k = zsl mh q k) ∧ mr.1 50 0 = mh.1 50 0 := by
  have fa := zWrx_f ha
  obtain ⟨fb, fs⟩ := zRm_f hb
  have eb : ∀ k, zBat m1 s k = zBat m s k := fun k => zBat_q (fun k a j hk => fa k a j (Or.inl hk)) s k
  have es : ∀ k, zsl mr q k = zsl mh q k := fun k => fb 47 _ (by decide) (by decide) (by omega)
  have ek : mr.1 50 0 = mh.1 50 0 := funext fun j => fb 50 j (by decide) (by decide) (by omega)
  have z1 := zst_room h ha hb
  obtain ⟨x1, x2, x3, x4, x5, x6, x7, x8, x9, x0⟩ := hx
  have p8 := x1.2.1
  refine ⟨z1, ⟨⟨x1.1, x1.2.1, x1.2.2.1, by rw [fa 26 u 7 (by omega), ek]; exact x1.2.2.2.1, by rw [ek]; exact x1.2.2.2.2⟩, fun k k0 k1 => by rw [eb, es]; exact x2 k k0 k1, by rw [fa 26 u 7 (by omega), eb, eb]; exact x3, by rw [eb]; exact x4, by rw [es]; exact x5, by rw [es]; exact x6, by rw [es]; exact x7, by rw [es, es]; exact x8, by rw [es]; exact x9, x0⟩, ⟨?_, ?_⟩, ⟨fa 19 0 6 (by omega), fa 19 0 5 (by omega)⟩, ⟨fb 34 35 (by decide) (by decide) (by omega), fb 34 21 (by decide) (by decide) (by omega)⟩, eb, es, ek⟩
  · rw [es, es, fb 55 _ (by decide) (by decide) (by omega)]
    exact fun z => hT (Or.inr z)
  · rw [es, es]
    have s1 := fs (7 * (p : Int) + zsl mh q 4).toNat (by omega)
    have s2 : mh.1 54 0 (7 * (p : Int) + zsl mh q 4).toNat = zsl mh q 7 ∨ mh.1 54 0 (7 * (p : Int) + zsl mh q 4).toNat = -1 := by
      by_cases z : zHas mh (7 * (p : Int) + zsl mh q 4).toNat
      · have y := h.1.2.2.2.2.2.2.1 _ (by omega) z
        exact Or.inl (Classical.byContradiction fun w => hT (Or.inl ⟨y, w⟩))
      · exact Or.inr (h.2 _ (by omega) z)
    omega
theorem zst_H {a a1 b b1 : wm} {s : Nat} {q r r' : Int} (h : zRR a b) (hl : a.1 19 0 5 = b.1 34 0 21) (hd : a.1 19 0 6 = b.1 34 0 35) (hs3 : s < 101) (hq : 0 ≤ q) (hs : zSq a b s q) (hr : ∀ k, 0 ≤ zBat a s k ∧ zBat a s k ≤ 255) (ha : zLsn a a1 s r) (hb : zHear b b1 q r') : r = r' ∧ zRR a1 b1 ∧ a1.1 19 0 5 = b1.1 34 0 21 ∧ a1.1 19 0 6 = b1.1 34 0 35 := by
  have hH := zst_hash hq hs
  have hthr : ∀ {mf : wm}, zfr (fun k i j => (k = 34 ∧ j = 0)) b mf → zRR a mf ∧ a.1 19 0 5 = mf.1 34 0 21 ∧ a.1 19 0 6 = mf.1 34 0 35 ∧ (zHsR mf q ↔ zHsR b q) ∧ ∀ k, zsl mf q k = zsl b q k := fun {mf} f => by
    have es : ∀ j, mf.1 47 0 j = b.1 47 0 j := fun j => (f 47 0 j (by omega)).1
    refine ⟨zRR_fb h f (by omega) (fun k j k1 k2 k3 => by omega), by rw [hl, (f 34 0 21 (by omega)).1], by rw [hd, (f 34 0 35 (by omega)).1], ?_, fun k => zsl_fr f (fun j => by omega) k⟩
    unfold zHsR
    rw [funext es]
  have e0 := hs 0 (by decide) (by decide)
  -- the class's way
  have hw : (r = 1 ∧ ¬ zHsh a s ∧ zfr (fun k i j => (k = 19 ∧ j = 6)) a a1 ∧ a1.1 19 0 6 = a.1 19 0 6 + 1) ∨ (r = 2 ∧ zHsh a s ∧ zBat a s 0 < a.1 19 0 5 ∧ zfr (fun k i j => (k = 19 ∧ j = 6)) a a1 ∧ a1.1 19 0 6 = a.1 19 0 6 + 1) ∨ ∃ ma, zW1 a ma s ∧ ((r = 3 ∧ ¬ zCb ma s ∧ zfr (fun k i j => (k = 19 ∧ j = 6)) ma a1 ∧ a1.1 19 0 6 = ma.1 19 0 6 + 1) ∨ (zCb ma s ∧ ∃ (u : Nat) (m : wm), zLea ma m (zBat a s 1) (256 * zBat a s 2 + zBat a s 3) u ∧ ((r = 4 ∧ zWo m s u ∧ zfr (fun k i j => (k = 19 ∧ j = 6)) m a1 ∧ a1.1 19 0 6 = m.1 19 0 6 + 1) ∨ (¬ zWo m s u ∧ ((r = 5 ∧ zWt m s ∧ zfr (fun k i j => (k = 19 ∧ j = 6)) m a1 ∧ a1.1 19 0 6 = m.1 19 0 6 + 1) ∨ (¬ zWt m s ∧ ((r = 6 ∧ m.1 22 0 3 = 24 ∧ (∀ j, j < zCu0 m → zIg m (m.1 23 0 j / 16)) ∧ zfr (fun k i j => (k = 19 ∧ j = 6)) m a1 ∧ a1.1 19 0 6 = m.1 19 0 6 + 1) ∨ (r = 0 ∧ ∃ (m1 : wm) (e : Nat), zWrx m m1 ∧ zPv m1 s e ∧ (zL0 m1 a1 s e ∨ ∃ mk, zL1 m1 mk s e ∧ ((¬ zCpx mk e (zBat m1 s 4).toNat ∧ mk = a1) ∨ (zCpx mk e (zBat m1 s 4).toNat ∧ zL2 mk a1 (zBat m1 s 1) (zBat m1 s 4) e))))))))))) := by
    rcases ha with ⟨hr0, m, w, F, e⟩ | ⟨rfl, m1, e, w, pv, hk⟩
    · rcases w with ⟨rfl, w1, rfl⟩ | ⟨rfl, w1, w2, w3⟩ | ⟨rfl, w1, w2⟩ | ⟨rfl, u, ⟨ma, w1, w2, w3⟩, w4⟩ | ⟨rfl, u, ⟨⟨ma, w1, w2, w3⟩, w4⟩, w5⟩ | ⟨rfl, u, ⟨⟨ma, w1, w2, w3⟩, w4⟩, w5, w6, w7⟩ | ⟨w1, -⟩
      · exact Or.inl ⟨rfl, w1, F, e⟩
      · rcases w2.2 with ⟨y1, y2, -⟩ | ⟨y1, rfl⟩
        · omega
        · exact Or.inr (Or.inl ⟨rfl, w1, w3, F, e⟩)
      · exact Or.inr (Or.inr ⟨m, w1, Or.inl ⟨rfl, w2, F, e⟩⟩)
      · exact Or.inr (Or.inr ⟨ma, w1, Or.inr ⟨w2, u, m, w3, Or.inl ⟨rfl, w4, F, e⟩⟩⟩)
      · exact Or.inr (Or.inr ⟨ma, w1, Or.inr ⟨w2, u, m, w3, Or.inr ⟨w4, Or.inl ⟨rfl, w5, F, e⟩⟩⟩⟩)
      · exact Or.inr (Or.inr ⟨ma, w1, Or.inr ⟨w2, u, m, w3, Or.inr ⟨w4, Or.inr ⟨w5, Or.inl ⟨rfl, w6, w7, F, e⟩⟩⟩⟩⟩)
      · exact absurd w1 hr0
    · rcases w with ⟨w1, -⟩ | ⟨w1, -⟩ | ⟨w1, -⟩ | ⟨w1, -⟩ | ⟨w1, -⟩ | ⟨w1, -⟩ | ⟨-, u, m, ⟨⟨ma, w1, w2, w3⟩, w4⟩, w5, w6⟩
      · omega
      · omega
      · omega
      · omega
      · omega
      · omega
      · exact Or.inr (Or.inr ⟨ma, w1, Or.inr ⟨w2, u, m, w3, Or.inr ⟨w4, Or.inr ⟨w5, Or.inr ⟨rfl, m1, e, w6, pv, hk⟩⟩⟩⟩⟩)
  -- the life that the class has noted
  have hlife : ∀ {ma : wm}, zW1 a ma s → a.1 19 0 5 ≤ zBat a s 0 := fun {ma} w => by
    rcases w.2.1.2 with ⟨y1, -⟩ | ⟨y1, y2⟩
    · omega
    · have := w.2.2
      rw [← y2] at this; exact this
  rcases hw with ⟨rfl, w1, F, e⟩ | ⟨rfl, w1, w2, F, e⟩ | ⟨ma, w1, hw⟩
  · rcases hb with ⟨rfl, mf, g1, g2, g3⟩ | ⟨-, mf, g1, g2, -⟩ | ⟨-, ml, ⟨mf, ⟨g1, g2, -⟩, -⟩, -⟩ | ⟨ml, mh, p, ⟨⟨mf, ⟨g1, g2, -⟩, -⟩, -⟩, -⟩
    · obtain ⟨t1, t2, t3, t4, t5⟩ := hthr g1
      exact ⟨rfl, zst_drop t1 t2 t3 F e g3⟩
    · exact absurd (hH.2 ((hthr g1).2.2.2.1.1 g2)) w1
    · exact absurd (hH.2 ((hthr g1).2.2.2.1.1 g2)) w1
    · exact absurd (hH.2 ((hthr g1).2.2.2.1.1 g2)) w1
  · rcases hb with ⟨-, mf, g1, g2, -⟩ | ⟨rfl, mf, g1, g2, g3, g4⟩ | ⟨-, ml, ⟨mf, ⟨g1, g2, g3⟩, -⟩, -⟩ | ⟨ml, mh, p, ⟨⟨mf, ⟨g1, g2, g3⟩, -⟩, -⟩, -⟩
    · exact absurd ((hthr g1).2.2.2.1.2 (hH.1 w1)) g2
    · obtain ⟨t1, t2, t3, t4, t5⟩ := hthr g1
      exact ⟨rfl, zst_drop t1 t2 t3 F e g4⟩
    · obtain ⟨t1, t2, t3, t4, t5⟩ := hthr g1
      rw [t5, ← e0] at g3; omega
    · obtain ⟨t1, t2, t3, t4, t5⟩ := hthr g1
      rw [t5, ← e0] at g3; omega
  · have hle := hlife w1
    have hz := hH.1 w1.1
    rcases hb with ⟨-, mf, g1, g2, -⟩ | ⟨-, mf, g1, g2, g3, g4⟩ | ⟨rfl, ml, g1, g2, g3⟩ | ⟨ml, mh, p, ⟨g1, g2⟩, g3, g4⟩
    · exact absurd ((hthr g1).2.2.2.1.2 hz) g2
    · obtain ⟨t1, t2, t3, t4, t5⟩ := hthr g1
      rw [t5, ← e0] at g3; omega
    · obtain ⟨f1, f2, f3, f4, f5⟩ := zst_f1 h hl hd hs w1 g1
      have hs' : zSq ma ml s q := fun k k0 k1 => by rw [f4, f5]; exact hs k k0 k1
      have bb1 := hr 1
      have hcan := zst_can f1.1.1 hs' (by rw [← hs' 1 (by decide) (by decide), f4]; exact bb1.1)
      rcases hw with ⟨rfl, -, F, e⟩ | ⟨c, -⟩
      · exact ⟨rfl, zst_drop f1 f2 f3 F e g3⟩
      · exact absurd (hcan.1 c) g2
    · obtain ⟨f1, f2, f3, f4, f5⟩ := zst_f1 h hl hd hs w1 g1
      have hs' : zSq ma ml s q := fun k k0 k1 => by rw [f4, f5]; exact hs k k0 k1
      have bb1 := hr 1
      have hcan := zst_can f1.1.1 hs' (by rw [← hs' 1 (by decide) (by decide), f4]; exact bb1.1)
      rcases hw with ⟨-, c, -⟩ | ⟨-, u, m, w3, hw⟩
      · exact absurd (hcan.2 g2) c
      · rw [← f4, ← f4, ← f4] at w3
        obtain ⟨x1, x2, x3, x4, x5, x6, x7⟩ := zst_f2 f1 hs3 hq hs' (fun k => by rw [f4]; exact hr k) g2 w3 g3
        rw [show p = ((p.toNat : Nat) : Int) by omega] at g4
        obtain ⟨y1, y2, y3, y4, y5, y6, y7, y8, y9, y0⟩ := id x2
        have hO := zst_oth x1 y1 y2 y3 y4 y5 y6
        have hTl := (zst_tell x1.1 y1 y2 y3 y4 y5 y6).2.2
        have hL2 : m.1 19 0 5 = mh.1 34 0 21 := by rw [x3.2, x4.2]; exact f2
        have hD2 : m.1 19 0 6 = mh.1 34 0 35 := by rw [x3.1, x4.1]; exact f3
        rcases hw with ⟨rfl, c1, F, e⟩ | ⟨c1, hw⟩
        · rcases g4 with ⟨rfl, k1, k2⟩ | ⟨-, k1, -⟩ | ⟨-, k1, -⟩ | ⟨-, k⟩
          · exact ⟨rfl, zst_drop x1 hL2 hD2 F e k2⟩
          · exact absurd (hO.1 c1) k1
          · exact absurd (hO.1 c1) k1
          · rcases k with ⟨m3, ⟨m2, ⟨mr, ⟨k1, -⟩, -⟩, -⟩, -⟩ | ⟨m4, m5, ⟨m3, ⟨m2, ⟨mr, ⟨k1, -⟩, -⟩, -⟩, -⟩, -⟩
            · exact absurd (hO.1 c1) k1
            · exact absurd (hO.1 c1) k1
        · have nO : ¬ zTo mh q ((p.toNat : Nat) : Int) (zsl mh q 4) (zsl mh q 5) := fun z => c1 (hO.2 z)
          rcases hw with ⟨rfl, c2, F, e⟩ | ⟨c2, hw⟩
          · rcases g4 with ⟨-, k1, -⟩ | ⟨rfl, -, k1, k2⟩ | ⟨-, -, k1, -⟩ | ⟨-, k⟩
            · exact absurd k1 nO
            · exact ⟨rfl, zst_drop x1 hL2 hD2 F e k2⟩
            · exact absurd (hTl.1 c2) k1
            · rcases k with ⟨m3, ⟨m2, ⟨mr, ⟨-, k1, -⟩, -⟩, -⟩, -⟩ | ⟨m4, m5, ⟨m3, ⟨m2, ⟨mr, ⟨-, k1, -⟩, -⟩, -⟩, -⟩, -⟩
              · exact absurd (hTl.1 c2) k1
              · exact absurd (hTl.1 c2) k1
          · have hu := zused x1.1
            have hfl := zst_full x1.1
            rcases hw with ⟨rfl, c3, c4, F, e⟩ | ⟨rfl, m1, e, c3, pv, hk⟩
            · have noR : ∀ {mr : wm}, ¬ zRm mh mr 1 := fun {mr} z => by
                rcases z with ⟨-, z, -⟩ | ⟨z, -⟩ | ⟨-, -, w, ⟨z1, z2, z3⟩, -⟩
                · omega
                · omega
                · rcases z3 with ⟨z3, -⟩ | ⟨-, -, z3, -⟩
                  · omega
                  · exact hfl.1 c4 w z1 z2 z3
              rcases g4 with ⟨-, k1, -⟩ | ⟨-, -, k1, -⟩ | ⟨rfl, -, -, mr, k1, k2⟩ | ⟨-, k⟩
              · exact absurd k1 nO
              · exact absurd (hTl.2 k1) c2
              · have em : mh = mr := by
                  rcases k1 with ⟨z, -⟩ | ⟨-, -, z, -⟩ | ⟨z, -⟩
                  · omega
                  · exact z
                  · omega
                rw [← em] at k2
                exact ⟨rfl, zst_drop x1 hL2 hD2 F e k2⟩
              · rcases k with ⟨m3, ⟨m2, ⟨mr, ⟨-, -, k1⟩, -⟩, -⟩, -⟩ | ⟨m4, m5, ⟨m3, ⟨m2, ⟨mr, ⟨-, -, k1⟩, -⟩, -⟩, -⟩, -⟩
                · exact absurd k1 noR
                · exact absurd k1 noR
            · have noF : ∀ {mr : wm}, ¬ zRm mh mr 0 := fun {mr} z => by
                rcases z with ⟨z, -⟩ | ⟨-, z1, -, z2⟩ | ⟨z, -⟩
                · omega
                · have z3 := hfl.2 z2
                  rcases c3 with ⟨q1, -⟩ | ⟨q1, o, q2, q3, -⟩
                  · omega
                  · rcases q2 with ⟨q2, -⟩ | ⟨-, q4, ⟨j, j1, j2⟩, -⟩
                    · omega
                    · exact q4 (by rw [← j2]; exact z3 j (by unfold zCu0; omega))
                · omega
              have fin : ∀ {mr m2 m3 : wm}, zRm mh mr 1 → zRa mr m2 (7 * ((p.toNat : Nat) : Int) + zsl mh q 4) (zsl mh q 5) (zTM mh q ((p.toNat : Nat) : Int) (zsl mh q 4) (zsl mh q 5)) (zTv mh q) (zsl mh q 7) → ((((zct (zRp m2 (7 * ((p.toNat : Nat) : Int) + zsl mh q 4) (zsl mh q 5)) (zRu m2) : Nat) : Int) = zTn mh q (zsl mh q 5) ∧ zSv m2 m3 (7 * ((p.toNat : Nat) : Int) + zsl mh q 4) (zsl mh q 5) (zTn mh q (zsl mh q 5))) ∨ (((zct (zRp m2 (7 * ((p.toNat : Nat) : Int) + zsl mh q 4) (zsl mh q 5)) (zRu m2) : Nat) : Int) ≠ zTn mh q (zsl mh q 5) ∧ m2 = m3)) → ((¬ zT3c m3 ((p.toNat : Nat) : Int) (zsl mh q 4) ∧ m3 = b1) ∨ (zT3c m3 ((p.toNat : Nat) : Int) (zsl mh q 4) ∧ ∃ b4 b5, zCo m3 b4 ((p.toNat : Nat) : Int) (zsl mh q 4) ∧ zBk (((p.toNat : Nat) : Int) / 4) b4 b5 ∧ zBcl b5 (((p.toNat : Nat) : Int) / 4) ∧ zfr zeJ b5 b1)) → zRR a1 b1 ∧ a1.1 19 0 5 = b1.1 34 0 21 ∧ a1.1 19 0 6 = b1.1 34 0 35 := fun {mr m2 m3} k1 k2 k3 k4 => by
                obtain ⟨v1, v2, v3, v4, v5, v6, v7, v8⟩ := zst_f3 x1 x2 c3 k1 nO
                have eu : e = u := by
                  have hp := v2.1
                  have hn := v2.2.2.1
                  have hf := v2.2.2.2.1
                  have hpf := hp.2.2.1
                  exact v1.1.1.2.2.1 e u pv.1 hp.1 (by have := pv.2.1; have := pv.2.2.1; omega) (by show m1.1 26 e 7 = m1.1 26 u 7; rw [pv.2.2.2.1, hn]) (by show m1.1 26 e 7 ≠ 0; rw [pv.2.2.2.1, ← hn, hp.2.2.2.1]; exact hp.2.2.2.2)
                rw [eu] at hk
                have eT : zTM mh q ((p.toNat : Nat) : Int) (zsl mh q 4) (zsl mh q 5) = zTM mr q ((p.toNat : Nat) : Int) (zsl mr q 4) (zsl mr q 5) := by
                  unfold zTM zTn
                  rw [v7, v7, v7, v7, v8]
                have eN : zTn mh q (zsl mh q 5) = zTn mr q (zsl mr q 5) := by
                  unfold zTn
                  rw [v7, v7]
                have eV : zTv mh q = zTv mr q := zen_c fun k _ => ((zRm_f k1).1 47 _ (by decide) (by decide) (by omega)).symm
                rw [eT, eV, ← v7 4, ← v7 5, ← v7 7] at k2
                rw [eN, ← v7 4, ← v7 5] at k3
                rw [← v7 4] at k4
                obtain ⟨d1, d2, d3⟩ := zst_take v1 v2 v3 pv.2.2.2.2 hk k2 k3 k4
                exact ⟨d1, by rw [d2.2, v4.2, d3.2, v5.2]; exact hL2, by rw [d2.1, v4.1, d3.1, v5.1]; exact hD2⟩
              rcases g4 with ⟨-, k1, -⟩ | ⟨-, -, k1, -⟩ | ⟨-, -, -, mr, k1, -⟩ | ⟨rfl, k⟩
              · exact absurd k1 nO
              · exact absurd (hTl.2 k1) c2
              · exact absurd k1 noF
              · rcases k with ⟨m3, ⟨m2, ⟨mr, ⟨-, -, k1⟩, k2⟩, k3⟩, k4, k5⟩ | ⟨m4, m5, ⟨m3, ⟨m2, ⟨mr, ⟨-, -, k1⟩, k2⟩, k3⟩, k4, k5⟩, k6, k7, k8⟩
                · exact ⟨rfl, fin k1 k2 k3 (Or.inl ⟨k4, k5⟩)⟩
                · exact ⟨rfl, fin k1 k2 k3 (Or.inr ⟨k4, m4, m5, k5, k6, k7, k8⟩)⟩
/-- ranks, on both sides -/
theorem zst_rk {a b : wm} {x y z bk r r' : Int} (h : zRR a b) (hx : 0 ≤ x ∧ x ≤ 1) (hy : 1 ≤ y) (hz : 0 ≤ z ∧ z ≤ 6) (hb : 0 ≤ bk ∧ bk ≤ 1) (h1 : zRof a x y z bk r) (h2 : zRkR b x y z bk r') : r = r' := by
  have hin := zNm2_in h.1.1 (f := x.toNat) (x := y) (by omega) (by omega)
  rcases h1 with ⟨a1, rfl⟩ | ⟨e, ⟨a1, a2, a3⟩, a4⟩
  · rcases h2 with ⟨-, rfl⟩ | ⟨p, ⟨b1, b2, b3⟩, -⟩
    · rfl
    · exact absurd b3 (by have := hin.1 a1 (p.toNat - 4 * x.toNat) (by omega); rw [show 4 * x.toNat + (p.toNat - 4 * x.toNat) = p.toNat by omega] at this; exact this)
  · rcases h2 with ⟨b1, -⟩ | ⟨p, ⟨b1, b2, b3⟩, b4⟩
    · exact absurd a3 (by have := hin.2 b1 (e - 4 * x.toNat) (by omega); rw [show 4 * x.toNat + (e - 4 * x.toNat) = e by omega] at this; exact this)
    · have hp : zPr a b e p.toNat := ⟨by omega, by omega, by omega, by rw [a3, b3], by rw [b3]; omega⟩
      have v3 := (h.1.2.1 e _ hp).1.2.1 (2 * z.toNat + bk.toNat) (by omega)
      rw [show (2 * (7 * p + z) + bk).toNat = 14 * p.toNat + (2 * z.toNat + bk.toNat) by omega, ← v3] at b4
      rcases a4 with ⟨c1, rfl⟩ | ⟨c1, rfl⟩
      · rcases b4 with ⟨-, rfl⟩ | ⟨d1, -⟩
        · rfl
        · omega
      · rcases b4 with ⟨d1, -⟩ | ⟨-, rfl⟩
        · omega
        · have hk := zqk_p (b := b) (p := p.toNat) (i := z.toNat) (bk := bk) (by omega) (by omega) hb (by rw [b3]; omega)
          have e1 := zct_2 h.1.1.1 h.1.2.2.1 hk
          rw [zkey_p (by omega), b3, show ((z.toNat : Nat) : Int) = z by omega, show ((p.toNat / 4 : Nat) : Int) = x by omega, show 7 * ((p.toNat : Nat) : Int) + z = 7 * p + z by omega] at e1
          rw [zIn_K, e1]
