/-! Both receivers side by side: a packet heard. -/
/-- the dropped and the greatest life of the reference -/
def zg2 (b b1 : wm) : Prop := b1.1 34 0 35 = b.1 34 0 35 ∧ b1.1 34 0 21 = b.1 34 0 21
theorem zg2_rf {b : wm} : zg2 b b := ⟨rfl, rfl⟩
theorem zg2_t {a b c : wm} (h1 : zg2 a b) (h2 : zg2 b c) : zg2 a c := ⟨h2.1.trans h1.1, h2.2.trans h1.2⟩
theorem zg2_f {e : Nat → Nat → Nat → Prop} {b b1 : wm} (hf : zfr e b b1) (h : ¬ e 34 0 35 ∧ ¬ e 34 0 21) : zg2 b b1 := ⟨(hf 34 0 35 h.1).1, (hf 34 0 21 h.2).1⟩
theorem zCo1_g {b b1 : wm} {f i : Int} (h : zCo1 b b1 f i) : zg2 b b1 := by
  rcases h with ⟨-, rfl⟩ | ⟨-, -, ⟨-, rfl⟩ | ⟨-, h, -⟩⟩
  · exact zg2_rf
  · exact ⟨rfl, rfl⟩
  · exact zg2_f h ⟨by unfold zeF; omega, by unfold zeF; omega⟩
theorem zLkR_g {b : wm} {f : Int} : ∀ (n : Nat) (b1 : wm), zLkR b f n b1 → zg2 b b1 := by
  intro n
  induction n with
  | zero => intro b1 h; rw [h]; exact zg2_rf
  | succ n ih =>
    rintro b1 ⟨m, h1, h2⟩
    refine zg2_t (ih m h1) ?_
    rcases h2 with ⟨-, h, -⟩ | ⟨-, h⟩
    · exact zg2_f h ⟨by unfold zeF; omega, by unfold zeF; omega⟩
    · exact zCo1_g h
theorem zCo_g {b b1 : wm} {f i : Int} (h : zCo b b1 f i) : zg2 b b1 := by
  rcases h with ⟨-, -, rfl⟩ | ⟨-, -, h⟩ | ⟨-, -, h, -⟩ | ⟨-, -, h⟩
  · exact zg2_rf
  · exact zCo1_g h
  · exact zg2_f h ⟨by unfold zeF; omega, by unfold zeF; omega⟩
  · have z := zLkR_g 6 b1 h
    exact ⟨z.1, z.2⟩
theorem zBk_g {b b1 : wm} {x : Int} (h : zBk x b b1) : zg2 b b1 := by
  obtain ⟨n, h⟩ := h
  have : ∀ (n : Nat) (b1 : wm), zBkn x b n b1 → zg2 b b1 := by
    intro n
    induction n with
    | zero => intro b1 h; rw [h]; exact zg2_rf
    | succ n ih =>
      rintro b1 ⟨m, p, i, h1, -, h2⟩
      exact zg2_t (ih m h1) (zg2_f h2.2.1 ⟨by unfold zeB; omega, by unfold zeB; omega⟩)
  exact this n b1 h
def zc2 (a a1 : wm) : Prop := a1.1 19 0 6 = a.1 19 0 6 ∧ a1.1 19 0 5 = a.1 19 0 5
theorem zc2_rf {b : wm} : zc2 b b := ⟨rfl, rfl⟩
theorem zc2_t {a b c : wm} (h1 : zc2 a b) (h2 : zc2 b c) : zc2 a c := ⟨h2.1.trans h1.1, h2.2.trans h1.2⟩
theorem zc2_f {e : Nat → Nat → Nat → Prop} {b b1 : wm} (hf : zfr e b b1) (h : ¬ e 19 0 6 ∧ ¬ e 19 0 5) : zc2 b b1 := ⟨(hf 19 0 6 h.1).1, (hf 19 0 5 h.2).1⟩
theorem zHk_c {a a1 : wm} {x : Int} (h : zHk x a a1) : zc2 a a1 := by
  obtain ⟨n, h⟩ := h
  have : ∀ (n : Nat) (a1 : wm), zHkn x a n a1 → zc2 a a1 := by
    intro n
    induction n with
    | zero => intro b1 h; rw [h]; exact zc2_rf
    | succ n ih =>
      rintro a1 ⟨m, y, z, h1, -, -, -, -, h2⟩
      exact zc2_t (ih m h1) (zc2_f h2.2.1 ⟨by unfold zEh; omega, by unfold zEh; omega⟩)
  exact this n a1 h
theorem zRm_f {b b1 : wm} {r : Int} (h : zRm b b1 r) : (∀ k j, k ≠ 54 → (k < 58 ∨ 61 < k) → ¬ (k = 34 ∧ j = 30) → b1.1 k 0 j = b.1 k 0 j) ∧ ∀ q, q < 56 → b1.1 54 0 q = b.1 54 0 q ∨ b1.1 54 0 q = -1 := by
  rcases h with ⟨-, -, rfl⟩ | ⟨-, -, rfl, -⟩ | ⟨-, -, w, -, md, f1, -, f3, f4⟩
  · exact ⟨fun _ _ _ _ _ => rfl, fun _ _ => Or.inl rfl⟩
  · exact ⟨fun _ _ _ _ _ => rfl, fun _ _ => Or.inl rfl⟩
  · refine ⟨fun k j h1 h2 h3 => ?_, fun q hq => ?_⟩
    · rw [(f3 k 0 j (by unfold zeS; omega)).1]
      exact (f1 k 0 j (by unfold zeR; omega)).1
    · have e := (f1 54 0 q (by unfold zeR; omega)).1
      by_cases z : zHas md q
      · exact Or.inl (by rw [((f4 q hq).1 (by omega)).1 z]; exact e)
      · exact Or.inr (((f4 q hq).1 (by omega)).2 z)
theorem zWrx_f {a a1 : wm} (h : zWrx a a1) : ∀ k t j, (k < 22 ∨ 25 < k) → a1.1 k t j = a.1 k t j := by
  rcases h with ⟨-, rfl⟩ | ⟨-, o, -, -, -, hf⟩
  · exact fun _ _ _ _ => rfl
  · exact fun k t j hk => (hf k t j (by omega)).1
/-- the class's part as it was -/
theorem zRR_fa {a a1 b : wm} {e : Nat → Nat → Nat → Prop} (h : zRR a b) (F : zfr e a a1) (h1 : ∀ k j, 22 ≤ k → k ≤ 25 → ¬ e k 0 j) (h2 : ∀ t j, t < 8 → j = 7 ∨ j = 9 ∨ j = 10 → ¬ e 26 t j) (h3 : ∀ k t j, t < 8 → 28 ≤ k → k ≤ 33 → ¬ e k t j) (h4 : ∀ i j, 101 ≤ i → i < 157 → ¬ e 1 i 1 ∧ ¬ e 2 i j) : zRR a1 b := by
  have lA : zLC a1 = zLC a := zLC_fr F h1
  exact ⟨zR0_rw h.1 (fun t ht => (F 26 t 7 (h2 t 7 ht (Or.inl rfl))).1) (fun _ _ => rfl) (fun t ht => zVa_fr F ⟨h2 t 9 ht (by omega), h2 t 10 ht (by omega)⟩ (fun k j k1 k2 => h3 k t j ht k1 k2) (fun i hi => ⟨(h4 _ 0 (by omega) (by omega)).1, fun j => (h4 _ j (by omega) (by omega)).2⟩)) (fun _ _ => zVb_rf) (by rw [lA]; exact h.1.2.2.1) (zMb_sub h.1.2.2.2.1 (by rw [lA]; exact List.Sublist.refl _) (fun _ _ => rfl) (fun _ _ _ _ => rfl)) (zCe_fr h.1.2.2.2.2.1 F h1) h.1.2.2.2.2.2.1 h.1.2.2.2.2.2.2.1, h.2⟩
/-- the reference's part as it was -/
theorem zRR_fb {a b b1 : wm} {e : Nat → Nat → Nat → Prop} (h : zRR a b) (F : zfr e b b1) (h1 : ¬ e 34 0 30) (h2 : ∀ k j, 50 ≤ k → k ≤ 61 → k ≠ 53 → ¬ e k 0 j) : zRR a b1 := by
  have lB : zLR b1 = zLR b := zLR_fr F h1 (fun k j k1 k2 => h2 k j (by omega) (by omega) (by omega))
  have f : ∀ k j, 50 ≤ k → k ≤ 57 → k ≠ 53 → b1.1 k 0 j = b.1 k 0 j := fun k j k1 k2 k3 => (F k 0 j (h2 k j k1 (by omega) k3)).1
  have hh : ∀ q, zHas b1 q ↔ zHas b q := fun q => by rw [zHas_L, zHas_L, lB, f 55 _ (by decide) (by decide) (by decide), f 55 _ (by decide) (by decide) (by decide)]
  exact ⟨zR0_rw h.1 (fun _ _ => rfl) (fun p _ => f 50 p (by decide) (by decide) (by decide)) (fun _ _ => zVa_rf) (fun p _ => zVb_fr F (fun k j k1 k2 k3 => h2 k j (by omega) (by omega) k3)) (by rw [lB]; exact h.1.2.2.1) (zMb_sub h.1.2.2.2.1 (List.Sublist.refl _) (fun p _ => f 50 p (by decide) (by decide) (by decide)) (fun q _ _ _ => f 54 _ (by decide) (by decide) (by decide))) h.1.2.2.2.2.1 (zRb_e h.1.2.2.2.2.2.1 lB) (fun q hq z => by rw [f 54 _ (by decide) (by decide) (by decide)]; exact h.1.2.2.2.2.2.2.1 q hq ((hh q).1 z)), fun q hq z => by rw [f 54 _ (by decide) (by decide) (by decide)]; exact h.2 q hq (fun y => z ((hh q).2 y))⟩
/-- kept and looked at, on both sides -/
theorem zst_take {a a1 b b1 : wm} {s u p : Nat} {q : Int} (h : zRR a b) (hx : zCx a b s u p q) (hy : zCy b p q) (ha0 : 0 ≤ a.1 22 0 3) (ha : zL0 a a1 s u ∨ ∃ mk, zL1 a mk s u ∧ ((¬ zCpx mk u (zBat a s 4).toNat ∧ mk = a1) ∨ (zCpx mk u (zBat a s 4).toNat ∧ zL2 mk a1 (zBat a s 1) (zBat a s 4) u))) {b2 b3 : wm} (hB : zRa b b2 (7 * (p : Int) + zsl b q 4) (zsl b q 5) (zTM b q (p : Int) (zsl b q 4) (zsl b q 5)) (zTv b q) (zsl b q 7)) (hS : (((zct (zRp b2 (7 * (p : Int) + zsl b q 4) (zsl b q 5)) (zRu b2) : Nat) : Int) = zTn b q (zsl b q 5) ∧ zSv b2 b3 (7 * (p : Int) + zsl b q 4) (zsl b q 5) (zTn b q (zsl b q 5))) ∨ (((zct (zRp b2 (7 * (p : Int) + zsl b q 4) (zsl b q 5)) (zRu b2) : Nat) : Int) ≠ zTn b q (zsl b q 5) ∧ b2 = b3)) (hb : (¬ zT3c b3 (p : Int) (zsl b q 4) ∧ b3 = b1) ∨ (zT3c b3 (p : Int) (zsl b q 4) ∧ ∃ b4 b5, zCo b3 b4 (p : Int) (zsl b q 4) ∧ zBk ((p : Int) / 4) b4 b5 ∧ zBcl b5 ((p : Int) / 4) ∧ zfr zeJ b5 b1)) : zRR a1 b1 ∧ zc2 a a1 ∧ zg2 b b1 := by
  obtain ⟨n1, n2, n3⟩ := zcx_n h.1 hx hy
  obtain ⟨hp, hs, hn, hx1, h4, h5, h7, h64, h6, h0⟩ := id hx
  have e4 := hs 4 (by decide) (by decide)
  have g2 : zg2 b b2 := zg2_f hB.1 ⟨by unfold zeA; omega, by unfold zeA; omega⟩
  have g3 : zg2 b b3 := by
    rcases hS with ⟨-, z, -⟩ | ⟨-, rfl⟩
    · exact zg2_t g2 (zg2_f z ⟨by unfold zeV; omega, by unfold zeV; omega⟩)
    · exact g2
  have eQ : 7 * (p : Int) + zsl b q 4 = 7 * (p : Int) + (((zsl b q 4).toNat : Nat) : Int) := by omega
  rcases ha with ha | ⟨mk, hk, ha⟩
  · obtain ⟨r1, r2, r3⟩ := zst_k0 h hx hy ha0 ha hB
    have eb : b2 = b3 := by
      rcases hS with ⟨z, -⟩ | ⟨-, z⟩
      · omega
      · exact z
    subst eb
    have c2 : zc2 a a1 := zc2_f ha.2 ⟨by unfold zeK; omega, by unfold zeK; omega⟩
    -- the block isn't solved, so the item isn't complete
    have nC : ¬ zT3c b2 (p : Int) (zsl b q 4) := by
      rintro ⟨z1, -⟩
      rw [eQ, ← zst_cp r1.1 r2 (by omega)] at z1
      obtain ⟨⟨v1, v3, v4, v5, v6⟩, -⟩ := h.1.2.1 u p hp
      have h28 := ha.1.2.2.2
      have hsz := ha.1.1.2
      rw [e4, hs 7 (by decide) (by decide)] at hsz
      have y1 := hy.1
      have p8 := hp.2.1
      rw [show (2 * (7 * (p : Int) + zsl b q 4) + zsl b q 5).toNat = 14 * p + (2 * (zsl b q 4).toNat + (zsl b q 5).toNat) by omega, ← v3 _ (by omega), ← h28] at y1
      obtain ⟨z2, z3⟩ := z1
      have e5 : (zsl b q 5).toNat = 0 ∨ (zsl b q 5).toNat = 1 := by omega
      rcases e5 with e5 | e5
      · rw [e5] at y1; exact y1 z2
      · rw [e5] at y1
        rcases z3 with z3 | z3
        · exact y1 z3
        · rw [hsz] at z3; omega
    rcases hb with ⟨-, rfl⟩ | ⟨z, -⟩
    · exact ⟨r1, c2, g2⟩
    · exact absurd z nC
  · obtain ⟨r1, r2⟩ := zst_k1 h hx hy ha0 hk hB hS
    have c2 : zc2 a mk := zc2_f hk.2 ⟨by unfold zeK; omega, by unfold zeK; omega⟩
    have k29 : mk.1 29 u (zsl b q 4).toNat = a.1 29 u (zsl b q 4).toNat := (hk.2 29 u _ (by unfold zeK; omega)).1
    have k26 : mk.1 26 u 10 = a.1 26 u 10 := (hk.2 26 u 10 (by unfold zeK; omega)).1
    have v4 := (r1.1.2.1 u p r2).1.2.2.1 (zsl b q 4).toNat (by omega)
    have hC : zCpx mk u (zsl b q 4).toNat ↔ zT3c b3 (p : Int) (zsl b q 4) := by
      unfold zT3c
      rw [eQ, ← zst_cp r1.1 r2 (by omega), show (7 * (p : Int) + (((zsl b q 4).toNat : Nat) : Int)).toNat = 7 * p + (zsl b q 4).toNat by omega, ← v4, k29]
      exact ⟨fun z => ⟨z, n2⟩, fun z => z.1⟩
    rw [e4] at ha
    rcases ha with ⟨z1, rfl⟩ | ⟨z1, ml, mh, l1, l2, l3, l4, l5⟩
    · rcases hb with ⟨-, rfl⟩ | ⟨y1, -⟩
      · exact ⟨r1, c2, g3⟩
      · exact absurd (hC.2 y1) z1
    · rcases hb with ⟨y1, -⟩ | ⟨y1, b4, b5, y2, y3, y4, y5⟩
      · exact absurd (hC.1 z1) y1
      · have rl : zRR ml b4 := zst_look r1 r2 hx1 h4 z1 (by rw [k29]; exact n2) (fun z => by
          rcases (r1.1.2.1 u p r2).2.1 with w | w
          · rw [k26] at w; exact absurd (by omega) (n3 w)
          · exact w.1) l1 y2
        rw [hx1] at l3 l4
        rw [show (p : Int) / 4 = ((p / 4 : Nat) : Int) by omega] at y3 y4
        have p8 := hp.2.1
        have rh := zst_share rl (f := p / 4) (by omega) l3 l4 y3 y4
        refine ⟨?_, ?_, ?_⟩
        · exact zRR_fb (zRR_fa rh l5 (fun k j k1 k2 => by unfold zeD; omega) (fun t j ht hj => by unfold zeD; omega) (fun k t j ht k1 k2 => by unfold zeD; omega) (fun i j i1 i2 => ⟨by unfold zeD; omega, by unfold zeD; omega⟩)) y5 (by unfold zeJ; omega) (fun k j k1 k2 k3 => by unfold zeJ; omega)
        · exact zc2_t c2 (zc2_t (zc2_f l2 ⟨by unfold zeL; omega, by unfold zeL; omega⟩) (zc2_t (zHk_c l3) (zc2_f l5 ⟨by unfold zeD; omega, by unfold zeD; omega⟩)))
        · exact zg2_t g3 (zg2_t (zCo_g y2) (zg2_t (zBk_g y3) (zg2_f y5 ⟨by unfold zeJ; omega, by unfold zeJ; omega⟩)))
