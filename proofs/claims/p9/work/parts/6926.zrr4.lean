/-! Both receivers side by side: another size, told already, room. -/
theorem zrow_k {a b : wm} (h : zR0 a b) {r : Int × Int × Int64} (hr : r ∈ zLC a) : ∃ r', r' ∈ zLR b ∧ zkey (b.1 50 0) r'.1 r'.2.1 = r.1 := by
  have r3 : r.1 ∈ (zLC a).map (fun r => r.1) := List.mem_map.2 ⟨r, hr, rfl⟩
  rw [h.2.2.1.1] at r3
  exact List.mem_map.1 r3
theorem zrow_c {a b : wm} (h : zR0 a b) {r' : Int × Int × Int × Int64} (hr : r' ∈ zLR b) : ∃ r, r ∈ zLC a ∧ r.1 = zkey (b.1 50 0) r'.1 r'.2.1 := by
  have r3 : zkey (b.1 50 0) r'.1 r'.2.1 ∈ (zLR b).map (fun r => zkey (b.1 50 0) r.1 r.2.1) := List.mem_map.2 ⟨r', hr, rfl⟩
  rw [← h.2.2.1.1] at r3
  exact List.mem_map.1 r3
theorem zmem_j {a : wm} {j : Nat} (hj : j < zCu0 a) : (a.1 23 0 j, a.1 24 0 j, a.2.1 25 0 j) ∈ zLC a := List.mem_map.2 ⟨j, List.mem_range.2 hj, rfl⟩
theorem zmem_i {a : wm} {r : Int × Int × Int64} (hr : r ∈ zLC a) : ∃ j, j < zCu0 a ∧ a.1 23 0 j = r.1 := by
  obtain ⟨j, j1, rfl⟩ := List.mem_map.1 hr
  exact ⟨j, List.mem_range.1 j1, rfl⟩
/-- the key of an item's block, where the version is known to both -/
theorem zkey_p {b : wm} {p i : Nat} {bk : Int} (hi : i < 7) : zkey (b.1 50 0) (7 * (p : Int) + (i : Int)) bk = 16 * (2 * b.1 50 0 p + ((p / 4 : Nat) : Int)) + 2 * (i : Int) + bk := by
  unfold zkey
  rw [show ((7 * (p : Int) + (i : Int)) / 7).toNat = p by omega, show (7 * (p : Int) + (i : Int)) / 28 = ((p / 4 : Nat) : Int) by omega, show (7 * (p : Int) + (i : Int)) % 7 = (i : Int) by omega]
theorem zqk_p {b : wm} {p i : Nat} {bk : Int} (hp : p < 8) (hi : i < 7) (hb : 0 ≤ bk ∧ bk ≤ 1) (h0 : b.1 50 0 p ≠ 0) : zqk (b.1 50 0) (7 * (p : Int) + (i : Int)) bk := ⟨by omega, by omega, hb.1, hb.2, by rw [show ((7 * (p : Int) + (i : Int)) / 7).toNat = p by omega]; exact h0⟩
theorem zhas_c {a b : wm} (h : zR0 a b) {u p i : Nat} (hp : zPr a b u p) (hi : i < 7) : zHas b (7 * p + i) ↔ (a.1 28 u (2 * i) = 1 ∨ a.1 28 u (2 * i + 1) = 1 ∨ 1 ≤ ((zct (zIn a (16 * (2 * a.1 26 u 7 + ((p / 4 : Nat) : Int)) + 2 * (i : Int)) (16 * (2 * a.1 26 u 7 + ((p / 4 : Nat) : Int)) + 2 * (i : Int) + 1)) (zCu0 a) : Nat) : Int)) := by
  obtain ⟨hv, -⟩ := h.2.1 u p hp
  obtain ⟨p1, p2, p3, p4, p5⟩ := hp
  have s0 := hv.2.1 (2 * i) (by omega)
  have s1 := hv.2.1 (2 * i + 1) (by omega)
  rw [show 14 * p + 2 * i = 2 * (7 * p + i) by omega] at s0
  rw [show 14 * p + (2 * i + 1) = 2 * (7 * p + i) + 1 by omega] at s1
  rw [zHas_L, s0, s1]
  refine or_congr Iff.rfl (or_congr Iff.rfl ?_)
  constructor
  · rintro ⟨r', r1, r2⟩
    obtain ⟨r, r3, r4⟩ := zrow_c h r1
    obtain ⟨j, j1, j2⟩ := zmem_i r3
    obtain ⟨w1, w2, w3, w4, w5⟩ := h.2.2.1.2.1 r' r1
    rw [r4, show r'.1 = 7 * (p : Int) + (i : Int) by omega, zkey_p hi, ← p4] at j2
    have := zct_p (P := zIn a (16 * (2 * a.1 26 u 7 + ((p / 4 : Nat) : Int)) + 2 * (i : Int)) (16 * (2 * a.1 26 u 7 + ((p / 4 : Nat) : Int)) + 2 * (i : Int) + 1)) j1 (decide_eq_true (by rw [j2]; omega))
    omega
  · intro hz
    obtain ⟨j, j1, j2⟩ := zct_e (P := zIn a (16 * (2 * a.1 26 u 7 + ((p / 4 : Nat) : Int)) + 2 * (i : Int)) (16 * (2 * a.1 26 u 7 + ((p / 4 : Nat) : Int)) + 2 * (i : Int) + 1)) (u := zCu0 a) (by omega)
    have j3 : 16 * (2 * a.1 26 u 7 + ((p / 4 : Nat) : Int)) + 2 * (i : Int) ≤ a.1 23 0 j ∧ a.1 23 0 j ≤ 16 * (2 * a.1 26 u 7 + ((p / 4 : Nat) : Int)) + 2 * (i : Int) + 1 := of_decide_eq_true j2
    obtain ⟨r', r1, r2⟩ := zrow_k h (zmem_j j1)
    have r2' : zkey (b.1 50 0) r'.1 r'.2.1 = a.1 23 0 j := r2
    have w := h.2.2.1.2.1 r' r1
    refine ⟨r', r1, ?_⟩
    have e := zkey_i h.1.1 w (zqk_p (b := b) (p := p) (i := i) (bk := a.1 23 0 j - (16 * (2 * a.1 26 u 7 + ((p / 4 : Nat) : Int)) + 2 * (i : Int))) p2 hi (by omega) p5) (by rw [r2', zkey_p hi, ← p4]; omega)
    rw [e.1]; omega
theorem zst_oth {a b : wm} {s u p : Nat} {q : Int} (h : zRR a b) (hp : zPr a b u p) (hs : zSq a b s q) (hn : a.1 26 u 7 = 256 * zBat a s 2 + zBat a s 3) (hx : zBat a s 1 = ((p / 4 : Nat) : Int)) (h4 : 0 ≤ zsl b q 4 ∧ zsl b q 4 ≤ 6) (h5 : 0 ≤ zsl b q 5 ∧ zsl b q 5 ≤ 1) : zWo a s u ↔ zTo b q (p : Int) (zsl b q 4) (zsl b q 5) := by
  have hc := zhas_c h.1 hp (i := (zsl b q 4).toNat) (by omega)
  obtain ⟨hv, -⟩ := h.1.2.1 u p hp
  have e4 := hs 4 (by decide) (by decide)
  have e5 := hs 5 (by decide) (by decide)
  have e7 := hs 7 (by decide) (by decide)
  unfold zWo zOs zTo
  rw [← hn, hx, e4, e5, e7]
  have s5 := hv.2.1 (2 * (zsl b q 4).toNat + (zsl b q 5).toNat) (by omega)
  rw [show (2 * (7 * (p : Int) + zsl b q 4) + zsl b q 5).toNat = 14 * p + (2 * (zsl b q 4).toNat + (zsl b q 5).toNat) by omega, ← s5]
  refine or_congr ?_ Iff.rfl
  rw [show (7 * (p : Int) + zsl b q 4).toNat = 7 * p + (zsl b q 4).toNat by omega]
  rw [show (((zsl b q 4).toNat : Nat) : Int) = zsl b q 4 by omega] at hc
  have hp' := hp.2.1
  constructor
  · rintro ⟨z1, z2⟩
    have z3 := h.1.2.2.2.2.2.2.1 (7 * p + (zsl b q 4).toNat) (by omega) (hc.2 z1)
    refine ⟨z3, ?_⟩
    rw [← hv.2.2.2.1 _ (by omega) z3]; exact z2
  · rintro ⟨z1, z2⟩
    refine ⟨hc.1 (Classical.byContradiction fun z => ?_), ?_⟩
    · rw [h.2 _ (by omega) z] at z1; omega
    · rw [hv.2.2.2.1 _ (by omega) z1]; exact z2
theorem zst_mk {a b : wm} {s u p : Nat} {q : Int} (hp : zPr a b u p) (hs : zSq a b s q) (hn : a.1 26 u 7 = 256 * zBat a s 2 + zBat a s 3) : zkM a s = zTM b q (p : Int) (zsl b q 4) (zsl b q 5) ∧ zkN a s = zTn b q (zsl b q 5) := by
  unfold zkM zTM zkN zTn
  rw [← hn, hp.2.2.2.1, hs 4 (by decide) (by decide), hs 5 (by decide) (by decide), hs 6 (by decide) (by decide), hs 7 (by decide) (by decide), Int.toNat_natCast]
  exact ⟨rfl, rfl⟩
theorem zst_tell {a b : wm} {s u p : Nat} {q : Int} (h : zR0 a b) (hp : zPr a b u p) (hs : zSq a b s q) (hn : a.1 26 u 7 = 256 * zBat a s 2 + zBat a s 3) (hx : zBat a s 1 = ((p / 4 : Nat) : Int)) (h4 : 0 ≤ zsl b q 4 ∧ zsl b q 4 ≤ 6) (h5 : 0 ≤ zsl b q 5 ∧ zsl b q 5 ≤ 1) : zWk a s = zkey (b.1 50 0) (7 * (p : Int) + zsl b q 4) (zsl b q 5) ∧ zqk (b.1 50 0) (7 * (p : Int) + zsl b q 4) (zsl b q 5) ∧ (zWt a s ↔ zTt b q (p : Int) (zsl b q 4) (zsl b q 5)) := by
  have hq := zqk_p (b := b) (p := p) (i := (zsl b q 4).toNat) (bk := zsl b q 5) hp.2.1 (by omega) h5 hp.2.2.2.2
  have hk := zkey_p (b := b) (p := p) (i := (zsl b q 4).toNat) (bk := zsl b q 5) (by omega)
  rw [show (((zsl b q 4).toNat : Nat) : Int) = zsl b q 4 by omega] at hq hk
  have e : zWk a s = zkey (b.1 50 0) (7 * (p : Int) + zsl b q 4) (zsl b q 5) := by
    unfold zWk
    rw [hk, ← hn, hx, hs 4 (by decide) (by decide), hs 5 (by decide) (by decide), hp.2.2.2.1]
  refine ⟨e, hq, ?_⟩
  unfold zWt zTt
  rw [e, (zst_mk hp hs hn).1]
  exact exists_congr fun v => by rw [zKp_L, zRp_L]; exact h.2.2.1.2.2 _ _ hq _
/-- the greatest of a folder -/
theorem zgt_k {a b : wm} (h : zNm2 (zcn0 a) (b.1 50 0)) {f : Nat} (hf : f < 2) : zGt a f (b.1 50 0 (4 * f + 3)) := by
  obtain ⟨h1, h2, h3, h4, h5⟩ := h
  have k0 := (h1 (4 * f + 3) (by omega)).1
  refine ⟨fun q hq => ?_, ?_⟩
  · by_cases e : zcn0 a (4 * f + q) = 0
    · have e' : a.1 26 (4 * f + q) 7 = 0 := e
      omega
    · obtain ⟨p, p1, p2, p3⟩ := h4 (4 * f + q) (by omega) e
      have p3' : b.1 50 0 p = a.1 26 (4 * f + q) 7 := p3
      by_cases e2 : p = 4 * f + 3
      · rw [← e2, p3']; exact Int.le_refl _
      · have := zSo_lt h1 (p := p) (p' := 4 * f + 3) (by omega) (by omega) (by omega)
        omega
  · by_cases e : b.1 50 0 (4 * f + 3) = 0
    · exact Or.inl e
    · obtain ⟨t, t1, t2, t3⟩ := h5 (4 * f + 3) (by omega) e
      exact Or.inr ⟨t % 4, by omega, by rw [show 4 * f + t % 4 = t by omega]; exact t3.symm⟩
theorem zig_p {a b : wm} (h : zNm2 (zcn0 a) (b.1 50 0)) {p : Nat} (hp : p < 8) (h0 : b.1 50 0 p ≠ 0) : zIg a (2 * b.1 50 0 p + ((p / 4 : Nat) : Int)) ↔ p % 4 = 3 := by
  have hf : p / 4 < 2 := by omega
  have k0 := (h.1 (4 * (p / 4) + 3) (by omega)).1
  have e2 : (2 * b.1 50 0 p + ((p / 4 : Nat) : Int)) % 2 = ((p / 4 : Nat) : Int) := by omega
  constructor
  · rintro ⟨g, g1, g2, g3⟩
    rw [e2, Int.toNat_natCast] at g2
    have e := zNm2_max h hf g1 g2.1 g2.2
    rw [e2] at g3
    have := zSo_u h.1 (p := p) (p' := 4 * (p / 4) + 3) hp (by omega) (by omega) (by omega) h0
    omega
  · intro h3
    refine ⟨b.1 50 0 (4 * (p / 4) + 3), k0, ?_, ?_⟩
    · rw [e2, Int.toNat_natCast]; exact zgt_k h hf
    · rw [e2, show 4 * (p / 4) + 3 = p by omega]
/-- the owner of a row, its place -/
theorem zown {b : wm} {r' : Int × Int × Int × Int64} (w : zqk (b.1 50 0) r'.1 r'.2.1) : (r'.1 / 7).toNat < 8 ∧ b.1 50 0 (r'.1 / 7).toNat ≠ 0 ∧ zkey (b.1 50 0) r'.1 r'.2.1 / 16 = 2 * b.1 50 0 (r'.1 / 7).toNat + (((r'.1 / 7).toNat / 4 : Nat) : Int) := by
  obtain ⟨w1, w2, w3, w4, w5⟩ := w
  refine ⟨by omega, w5, ?_⟩
  unfold zkey
  rw [show r'.1 / 28 = (((r'.1 / 7).toNat / 4 : Nat) : Int) by omega]
  omega
theorem zhit_r {b : wm} {p : Int} : zHit b (b.1 34 0 30) (7 * p) (7 * p + 6) ↔ ∃ r', r' ∈ zLR b ∧ 7 * p ≤ r'.1 ∧ r'.1 ≤ 7 * p + 6 := by
  constructor
  · rintro ⟨j, j1, j2, j3, j4⟩
    exact ⟨_, List.mem_map.2 ⟨j.toNat, List.mem_range.2 (by unfold zRu; omega), rfl⟩, j3, j4⟩
  · rintro ⟨r', r1, r2, r3⟩
    obtain ⟨j, j1, rfl⟩ := List.mem_map.1 r1
    have := List.mem_range.1 j1
    unfold zRu at this
    exact ⟨(j : Int), by omega, by omega, by rw [Int.toNat_natCast]; exact r2, by rw [Int.toNat_natCast]; exact r3⟩
theorem zused {a b : wm} (h : zR0 a b) : (a.1 22 0 3).toNat = (b.1 34 0 30).toNat := by
  have e := zRw2_len h.2.2.1
  rw [zLC_len, zLR_len] at e
  exact e
/-- all rows are of the greatest versions, on both sides -/
theorem zst_full {a b : wm} (h : zR0 a b) : (∀ j, j < zCu0 a → zIg a (a.1 23 0 j / 16)) ↔ ∀ p : Int, 0 ≤ p → p < 8 → ¬ zRq b p := by
  constructor
  · rintro ha p p1 p2 ⟨q1, q2⟩
    obtain ⟨r', r1, r2, r3⟩ := zhit_r.1 q2
    obtain ⟨r, r4, r5⟩ := zrow_c h r1
    obtain ⟨j, j1, j2⟩ := zmem_i r4
    obtain ⟨o1, o2, o3⟩ := zown (h.2.2.1.2.1 r' r1)
    have z := ha j j1
    rw [j2, r5, o3] at z
    have := (zig_p h.1 o1 o2).1 z
    omega
  · intro hb j hj
    obtain ⟨r', r1, r2⟩ := zrow_k h (zmem_j hj)
    have r2' : zkey (b.1 50 0) r'.1 r'.2.1 = a.1 23 0 j := r2
    obtain ⟨o1, o2, o3⟩ := zown (h.2.2.1.2.1 r' r1)
    obtain ⟨w1, w2, -⟩ := h.2.2.1.2.1 r' r1
    rw [← r2', o3, zig_p h.1 o1 o2]
    apply Classical.byContradiction
    intro z
    exact hb (r'.1 / 7) (by omega) (by omega) ⟨by omega, zhit_r.2 ⟨r', r1, by omega, by omega⟩⟩
theorem zst_room {a a1 b b1 : wm} (h : zRR a b) (ha : zWrx a a1) (hb : zRm b b1 1) : zRR a1 b1 := by
  have hu := zused h.1
  rcases ha with ⟨a2, rfl⟩ | ⟨a2, o, a3, a4, a5, a6⟩
  · rcases hb with ⟨-, b2, rfl⟩ | ⟨b2, -⟩ | ⟨-, b2, -⟩
    · exact h
    · omega
    · omega
  · rcases hb with ⟨-, b2, rfl⟩ | ⟨b2, -⟩ | ⟨-, b2, w, ⟨w1, w2, w3⟩, md, f1, f2, f3, f4⟩
    · omega
    · omega
    · rcases a3 with ⟨a3, -⟩ | ⟨-, a7, ⟨j, j1, j2⟩, a8⟩
      · omega
      rcases w3 with ⟨w3, -⟩ | ⟨-, -, ⟨w4, w5⟩, w6⟩
      · omega
      have hN := h.1.1
      -- the class's least owner is the reference's least place
      have ho : o = 2 * b.1 50 0 w.toNat + ((w.toNat / 4 : Nat) : Int) := by
        obtain ⟨r', r1, r2⟩ := zrow_k h.1 (zmem_j (j := j) (a := a) (by unfold zCu0; omega))
        have r2' : zkey (b.1 50 0) r'.1 r'.2.1 = a.1 23 0 j := r2
        obtain ⟨o1, o2, o3⟩ := zown (h.1.2.2.1.2.1 r' r1)
        obtain ⟨v1, v2, -⟩ := h.1.2.2.1.2.1 r' r1
        rw [← r2', o3] at j2
        have m3 : ¬ ((r'.1 / 7).toNat % 4 = 3) := fun z => a7 (by rw [← j2]; exact (zig_p hN o1 o2).2 z)
        have z1 := w6 (r'.1 / 7) (by omega) (by omega) ⟨by omega, zhit_r.2 ⟨r', r1, by omega, by omega⟩⟩
        obtain ⟨s', s1, s2, s3⟩ := zhit_r.1 w5
        obtain ⟨t, t1, t2⟩ := zrow_c h.1 s1
        obtain ⟨i, i1, i2⟩ := zmem_i t1
        obtain ⟨u1, u2, u3⟩ := zown (h.1.2.2.1.2.1 s' s1)
        have es : (s'.1 / 7).toNat = w.toNat := by omega
        rw [es] at u1 u2 u3
        have z2 := a8 i (by unfold zCu0 at i1; omega)
        rw [i2, t2, u3] at z2
        have z3 : 2 * b.1 50 0 (r'.1 / 7).toNat + (((r'.1 / 7).toNat / 4 : Nat) : Int) ≤ 2 * b.1 50 0 w.toNat + ((w.toNat / 4 : Nat) : Int) := by
          rw [j2]
          exact z2.elim (fun z => absurd ((zig_p hN u1 u2).1 z) (by omega)) (fun z => z)
        have e5 : b.1 50 0 w.toNat = b.1 50 0 (r'.1 / 7).toNat := by omega
        have e6 := zSo_u hN.1 (p := w.toNat) (p' := (r'.1 / 7).toNat) u1 o1 (by omega) e5 u2
        rw [← j2, ← e6]
      have lS : (zLC a1).Sublist (zLC a) := by rw [a5]; exact List.filter_sublist
      have hR : zRw2 (zLC a1) (zLR md) (b.1 50 0) := by
        rw [a5, f2]
        refine zRw2_c h.1.2.2.1 (kb := fun q bk => decide (¬ (7 * w ≤ q ∧ q ≤ 7 * w + 6 ∧ ((-1 : Int) < 0 ∨ bk = -1)))) rfl fun q bk hq => ?_
        rw [decide_eq_true_iff, ho]
        have hq' := hq
        obtain ⟨q1, q2, q3, q4, q5⟩ := hq
        unfold zkey
        constructor
        · rintro hk ⟨z1, z2, -⟩
          have e : (q / 7).toNat = w.toNat := by omega
          rw [e] at hk
          omega
        · intro hz
          apply Classical.byContradiction
          intro hk
          have e1 : b.1 50 0 (q / 7).toNat = b.1 50 0 w.toNat := by omega
          have e3 := zSo_u hN.1 (p := (q / 7).toNat) (p' := w.toNat) (by omega) (by omega) (by omega) e1 q5
          exact hz ⟨by omega, by omega, Or.inl (by omega)⟩
      have g : ∀ k i, k < 58 → k ≠ 34 → md.1 k 0 i = b.1 k 0 i := fun k i hk hk2 => (f1 k 0 i (by unfold zeR; omega)).1
      have hr0 : zR0 a1 md := zR0_rw h.1 (fun t _ => (a6 26 t 7 (by omega)).1) (fun p _ => g 50 p (by decide) (by decide)) (fun t ht => zVa_fr a6 ⟨by omega, by omega⟩ (fun k j h1 h2 => by omega) (fun i hi => ⟨by omega, fun j => by omega⟩)) (fun p hp => zVb_fr f1 (fun k j h1 h2 h3 => by unfold zeR; omega)) hR (zMb_sub h.1.2.2.2.1 lS (fun p _ => g 50 p (by decide) (by decide)) (fun q bk _ _ => g 54 _ (by decide) (by decide))) (zCe_f h.1.2.2.2.2.1 a5) (zRb_f h.1.2.2.2.2.2.1 f2) (zS1_sub h.1.2.2.2.2.2.2.1 (fun j _ => g 55 j (by decide) (by decide)) (fun q _ _ => g 54 q (by decide) (by decide)) (fun r hr => by rw [f2] at hr; exact (List.mem_filter.1 hr).1))
      exact zR0_us hr0 f3 f4
