/-! Both receivers side by side: a version more. -/
theorem zst_new {a a1 b b1 : wm} {x y p : Int} {r : Nat} (h : zRR a b) (hx : 0 ≤ x ∧ x ≤ 1) (hy : 1 ≤ y) (hr : r < 8 ∧ 4 * x.toNat ≤ r ∧ r < 4 * x.toNat + 4) (fa : zfr (zLe0 8) a a1) (ha : zLn a a1 x y r) (hp : 4 * x ≤ p ∧ p ≤ 4 * x + 3) (hb : zHr b b1 x y p) : zRR a1 b1 ∧ zPr a1 b1 r p.toNat := by
  obtain ⟨l1, l2, l3, l4, l5, l6, l7, l8⟩ := ha
  obtain ⟨⟨hN, hV, hR, hM, hC, hB, hS1, hU⟩, hS2⟩ := h
  have hm : zcn0 a r = b.1 50 0 (4 * x.toNat) := zNm2_min hN (f := x.toNat) (by omega) (by omega) (fun q hq => l2 q hq)
  have hm' : a.1 26 r 7 = b.1 50 0 (4 * x.toNat) := hm
  have hN' : zNm2 (zcn0 a1) (b1.1 50 0) := zNm2_new hN (f := x.toNat) (a := p.toNat) (r := r) (x := y) (by omega) hy (by omega) hm hb.1 l4 (fun t ht hne => (l8 t (by omega) hne).1 7) (by omega) (fun p' h1 h2 => by have := hb.2.1 (p' : Int) (by omega) (by omega); rwa [Int.toNat_natCast] at this) (fun h1 => by have := hb.2.2.1 (by omega); rwa [show (p + 1).toNat = p.toNat + 1 by omega] at this) (zHr_k hb hx hp)
  have fV : ∀ t, t < 8 → t ≠ r → zVa a a1 t := fun t ht hne => by
    obtain ⟨w1, w2, w3, w4⟩ := l8 t (by omega) hne
    exact ⟨⟨w1 9, w1 10⟩, w2, w3, fun i hi => ⟨w4 i hi, fun j => (fa 2 _ j (by unfold zLe0; omega)).1⟩, fun j => ⟨(fa 30 t j (by unfold zLe0; omega)).1, (fa 31 t j (by unfold zLe0; omega)).1, (fa 32 t j (by unfold zLe0; omega)).1, (fa 33 t j (by unfold zLe0; omega)).2.1⟩⟩
  obtain ⟨A1, A2, A3, A4, A5⟩ := zHr_a hb hx hp
  have hR1 : zRw2 (zLC a1) ((zLR b).filter (zkp (4 * x) 7)) (b.1 50 0) := by
    rw [l3]
    refine zRw2_c hR (kb := fun q _ => decide (¬ (7 * (4 * x) ≤ q ∧ q < 7 * (4 * x) + 7))) rfl fun q bk hq => ?_
    rw [decide_eq_true_iff, hm']
    obtain ⟨q1, q2, q3, q4, q5⟩ := hq
    unfold zkey
    constructor
    · intro hk hpl
      have e : (q / 7).toNat = 4 * x.toNat := by omega
      rw [e] at hk
      omega
    · intro hpl
      apply Decidable.byContradiction
      intro hk
      have e1 : b.1 50 0 (q / 7).toNat = b.1 50 0 (4 * x.toNat) := by omega
      have e2 : q / 28 = x := by omega
      have e3 := zSo_u hN.1 (p := (q / 7).toNat) (p' := 4 * x.toNat) (by omega) (by omega) (by omega) e1 q5
      exact hpl (by omega)
  have hpl : ∀ r0, r0 ∈ (zLR b).filter (zkp (4 * x) 7) → r0 ∈ zLR b ∧ ¬ (7 * (4 * x) ≤ r0.1 ∧ r0.1 < 7 * (4 * x) + 7) := fun r0 h0 => ⟨(List.mem_filter.1 h0).1, of_decide_eq_true (List.mem_filter.1 h0).2⟩
  have hg : ∀ r0, r0 ∈ (zLR b).filter (zkp (4 * x) 7) → zqk (b1.1 50 0) (zgn x p r0.1) r0.2.1 ∧ zkey (b1.1 50 0) (zgn x p r0.1) r0.2.1 = zkey (b.1 50 0) r0.1 r0.2.1 := fun r0 h0 => by
    obtain ⟨m1, m2⟩ := hpl r0 h0
    obtain ⟨q1, q2, q3, q4, q5⟩ := hR.2.1 r0 m1
    obtain ⟨g1, g2, g3, g4, g5, g6⟩ := zgn_i hx hp ⟨q1, q2⟩ m2
    have e := (zHr_v hb hx hp _ g3).2.2
    rw [← g6] at e
    refine ⟨⟨g1, g2, q3, q4, by rw [e]; exact q5⟩, ?_⟩
    unfold zkey
    rw [e, g4, g5]
  have hR2 : zRw2 (zLC a1) (zLR b1) (b1.1 50 0) := by
    rw [zHr_L hb]
    refine zRw2_m hR1 hg fun q' bk hq' => ?_
    obtain ⟨q1, q2, q3, q4, q5⟩ := hq'
    by_cases e : (q' / 7).toNat = p.toNat
    · refine Or.inr ⟨fun r0 h0 z => ?_, fun r0 h0 z => ?_⟩
      · obtain ⟨m1, m2⟩ := hpl r0 h0
        obtain ⟨w1, w2, -⟩ := hR.2.1 r0 m1
        obtain ⟨g1, g2, g3, -⟩ := zgn_i hx hp ⟨w1, w2⟩ m2
        rw [z] at g3
        exact g3 e
      · have r3 : r0.1 ∈ (zLC a1).map (fun r => r.1) := List.mem_map.2 ⟨r0, h0, rfl⟩
        rw [hR1.1] at r3
        obtain ⟨r', r4, r5⟩ := List.mem_map.1 r3
        have r5' : zkey (b.1 50 0) r'.1 r'.2.1 = r0.1 := r5
        rw [z] at r5'
        obtain ⟨w1, w2, w3, w4, w5⟩ := hR.2.1 r' (hpl r' r4).1
        unfold zkey at r5'
        rw [e, A1] at r5'
        have e2 : b.1 50 0 (r'.1 / 7).toNat = y := by omega
        have e3 : r'.1 / 28 = x := by omega
        exact hb.1 ((r'.1 / 7).toNat - 4 * x.toNat) (by omega) (by rw [show 4 * x.toNat + ((r'.1 / 7).toNat - 4 * x.toNat) = (r'.1 / 7).toNat by omega]; exact e2)
    · have ek := (zHr_v hb hx hp _ e).2.2
      refine Or.inl ⟨7 * (zsrc x p (q' / 7).toNat : Int) + q' % 7, ⟨by omega, ?_, q3, q4, ?_⟩, ?_, fun r0 h0 => ?_⟩
      · unfold zsrc; split <;> omega
      · rw [show ((7 * (zsrc x p (q' / 7).toNat : Int) + q' % 7) / 7).toNat = zsrc x p (q' / 7).toNat by omega, ← ek]; exact q5
      · unfold zkey
        rw [show ((7 * (zsrc x p (q' / 7).toNat : Int) + q' % 7) / 7).toNat = zsrc x p (q' / 7).toNat by omega, ← ek, show (7 * (zsrc x p (q' / 7).toNat : Int) + q' % 7) % 7 = q' % 7 by omega]
        have e28 : (7 * (zsrc x p (q' / 7).toNat : Int) + q' % 7) / 28 = q' / 28 := by unfold zsrc; split <;> omega
        rw [e28]
      · obtain ⟨m1, m2⟩ := hpl r0 h0
        obtain ⟨w1, w2, -⟩ := hR.2.1 r0 m1
        obtain ⟨g1, g2, g3, g4, g5, g6⟩ := zgn_i hx hp ⟨w1, w2⟩ m2
        constructor
        · intro z
          rw [z] at g5 g6
          omega
        · intro z
          unfold zsrc at z
          unfold zgn
          split at z
          · rw [if_pos (by omega)]; omega
          · rw [if_neg (by omega)]; omega
  have hhas : ∀ q', q' < 56 → q' / 7 ≠ p.toNat → (zHas b1 q' ↔ zHas b (7 * zsrc x p (q' / 7) + q' % 7)) ∧ b1.1 54 0 q' = b.1 54 0 (7 * zsrc x p (q' / 7) + q' % 7) := fun q' hq hne => by
    obtain ⟨v1, v2, -⟩ := zHr_v hb hx hp (q' / 7) hne
    have e54 := v2 (q' % 7) (by omega)
    rw [show 7 * (q' / 7) + q' % 7 = q' by omega] at e54
    refine ⟨?_, e54⟩
    have s0 := v1.2.1 (2 * (q' % 7)) (by omega)
    have s1 := v1.2.1 (2 * (q' % 7) + 1) (by omega)
    rw [show 14 * (q' / 7) + 2 * (q' % 7) = 2 * q' by omega, show 14 * zsrc x p (q' / 7) + 2 * (q' % 7) = 2 * (7 * zsrc x p (q' / 7) + q' % 7) by omega] at s0
    rw [show 14 * (q' / 7) + (2 * (q' % 7) + 1) = 2 * q' + 1 by omega, show 14 * zsrc x p (q' / 7) + (2 * (q' % 7) + 1) = 2 * (7 * zsrc x p (q' / 7) + q' % 7) + 1 by omega] at s1
    rw [zHas_L, zHas_L, s0, s1, zHr_L hb]
    refine or_congr Iff.rfl (or_congr Iff.rfl ?_)
    constructor
    · rintro ⟨r', r1, r2⟩
      obtain ⟨r0, h0, rfl⟩ := List.mem_map.1 r1
      obtain ⟨m1, m2⟩ := hpl r0 h0
      obtain ⟨w1, w2, -⟩ := hR.2.1 r0 m1
      obtain ⟨g1, g2, g3, g4, g5, g6⟩ := zgn_i hx hp ⟨w1, w2⟩ m2
      have r2' : zgn x p r0.1 = (q' : Int) := r2
      rw [r2', show ((q' : Int) / 7).toNat = q' / 7 by omega] at g6
      rw [r2'] at g5
      exact ⟨r0, m1, by omega⟩
    · rintro ⟨r0, m1, r2⟩
      obtain ⟨w1, w2, -⟩ := hR.2.1 r0 m1
      have m2 : ¬ (7 * (4 * x) ≤ r0.1 ∧ r0.1 < 7 * (4 * x) + 7) := by
        unfold zsrc at r2
        split at r2 <;> omega
      refine ⟨_, List.mem_map.2 ⟨r0, List.mem_filter.2 ⟨m1, decide_eq_true m2⟩, rfl⟩, ?_⟩
      show zgn x p r0.1 = (q' : Int)
      unfold zsrc at r2
      unfold zgn
      split at r2
      · rw [if_pos (by omega)]; omega
      · rw [if_neg (by omega)]; omega
  have hno : ∀ q', q' < 56 → q' / 7 = p.toNat → ¬ zHas b1 q' ∧ b1.1 54 0 q' = -1 := fun q' hq he => by
    have e54 := (A4 (q' % 7) (by omega)).1
    rw [show 7 * p.toNat + q' % 7 = q' by omega] at e54
    refine ⟨fun z => ?_, e54⟩
    have s0 := A5 (2 * (q' % 7)) (by omega)
    have s1 := A5 (2 * (q' % 7) + 1) (by omega)
    rw [show 14 * p.toNat + 2 * (q' % 7) = 2 * q' by omega] at s0
    rw [show 14 * p.toNat + (2 * (q' % 7) + 1) = 2 * q' + 1 by omega] at s1
    rcases zHas_L.1 z with y1 | y1 | ⟨r', r1, r2⟩
    · omega
    · omega
    · rw [zHr_L hb] at r1
      obtain ⟨r0, h0, rfl⟩ := List.mem_map.1 r1
      obtain ⟨m1, m2⟩ := hpl r0 h0
      obtain ⟨w1, w2, -⟩ := hR.2.1 r0 m1
      obtain ⟨g1, g2, g3, -⟩ := zgn_i hx hp ⟨w1, w2⟩ m2
      have r2' : zgn x p r0.1 = (q' : Int) := r2
      rw [r2'] at g3
      omega
  have hpr : zPr a1 b1 r p.toNat := ⟨hr.1, by omega, by omega, by rw [l4, A1], by rw [A1]; omega⟩
  refine ⟨⟨⟨hN', fun t p' htp => ?_, hR2, fun q' bk hq' r0 h0 hk => ?_, zCe_f hC l3, zRb_hr hB hb, fun q' hq z => ?_, ⟨fun t ht h0 => ?_, fun p' hp' h0 => ?_⟩⟩, fun q' hq z => ?_⟩, hpr⟩
  · obtain ⟨u1, u2, u3, u4, u5⟩ := htp
    by_cases e : t = r
    · have ep : p' = p.toNat := zSo_u hN'.1 u2 (by omega) (by omega) (by rw [← u4, e, l4, A1]) u5
      rw [e, ep]
      have c28 : ∀ j, j < 14 → a1.1 28 r j = 0 := fun j hj => by
        obtain ⟨-, -, z3, z4⟩ := l7 (j / 2) (by omega)
        by_cases ej : j % 2 = 0
        · rw [show 2 * (j / 2) = j by omega] at z3; exact z3
        · rw [show 2 * (j / 2) + 1 = j by omega] at z4; exact z4
      refine ⟨⟨⟨by rw [l6, A2], by rw [l5, A3]⟩, fun j hj => by rw [c28 j hj, A5 j hj], fun i hi => by rw [(l7 i hi).2.1, (A4 i hi).2], fun i hi z => ?_, fun i j hi _ hj hs => ?_⟩, Or.inr ⟨l6, l5⟩, fun z => ?_, fun i hi z => ?_⟩
      · rw [(A4 i hi).1] at z; omega
      · rw [c28 _ (by omega)] at hs; omega
      · rw [l6] at z; omega
      · rw [(l7 i hi).2.1] at z; omega
    · have e4 : a1.1 26 t 7 = a.1 26 t 7 := (l8 t (by omega) e).1 7
      have ep : p' ≠ p.toNat := fun ep => l1 (t - 4 * x.toNat) (by omega) (by rw [show 4 * x.toNat + (t - 4 * x.toNat) = t by omega, ← e4, u4, ep, A1])
      obtain ⟨v1, v2, v3⟩ := zHr_v hb hx hp p' ep
      have q : zPr a b t (zsrc x p p') := ⟨u1, by unfold zsrc; split <;> omega, by unfold zsrc; split <;> omega, by rw [← e4, u4, v3], by rw [← v3]; exact u5⟩
      obtain ⟨w1, w2⟩ := hV t _ q
      exact ⟨zVr_ab w1 (fV t u1 e) v1, zVc_a w2 (fV t u1 e) e4⟩
  · have r3 : r0.1 ∈ (zLC a1).map (fun r => r.1) := List.mem_map.2 ⟨r0, h0, rfl⟩
    rw [hR1.1] at r3
    obtain ⟨r', r4, r5⟩ := List.mem_map.1 r3
    have r5' : zkey (b.1 50 0) r'.1 r'.2.1 = r0.1 := r5
    obtain ⟨g1, g2⟩ := hg r' r4
    have e := zkey_i hN'.1 g1 hq' (by rw [g2, r5', hk])
    obtain ⟨m1, m2⟩ := hpl r' r4
    obtain ⟨w1, w2, w3, w4, w5⟩ := hR.2.1 r' m1
    obtain ⟨y1, y2, y3, y4, y5, y6⟩ := zgn_i hx hp ⟨w1, w2⟩ m2
    have z := hM r'.1 r'.2.1 ⟨w1, w2, w3, w4, w5⟩ r0 (by rw [l3] at h0; exact (List.mem_filter.1 h0).1) r5'.symm
    rw [e.1] at y3 y5 y6
    have e54 := (hhas q'.toNat (by have := hq'.2.1; have := hq'.1; omega) (by have := hq'.1; omega)).2
    rw [e54, ← e.2, show 7 * zsrc x p (q'.toNat / 7) + q'.toNat % 7 = r'.1.toNat by have := hq'.1; rw [show q'.toNat / 7 = (q' / 7).toNat by omega, ← y6]; omega]
    exact z
  · by_cases e : q' / 7 = p.toNat
    · exact absurd z (hno q' hq e).1
    · rw [(hhas q' hq e).2]
      exact hS1 _ (by unfold zsrc; split <;> omega) ((hhas q' hq e).1.1 z)
  · by_cases e : t = r
    · rw [e, l4] at h0; omega
    · rw [(l8 t (by omega) e).1] at h0
      rw [(l8 t (by omega) e).1]; exact hU.1 t ht h0
  · by_cases e : p' = p.toNat
    · rw [e, A1] at h0; omega
    · obtain ⟨v1, v2, v3⟩ := zHr_v hb hx hp p' e
      rw [v3] at h0
      obtain ⟨y1, y2⟩ := hU.2 _ (by unfold zsrc; split <;> omega) h0
      exact ⟨by rw [v1.1.1]; exact y1, fun i hi => by rw [v1.2.2.1 i hi]; exact y2 i hi⟩
  · by_cases e : q' / 7 = p.toNat
    · exact (hno q' hq e).2
    · rw [(hhas q' hq e).2]
      exact hS2 _ (by unfold zsrc; split <;> omega) (fun y => z ((hhas q' hq e).1.2 y))
/-- a version heard, known or not -/
theorem zst_hears {a a1 b b1 : wm} {x y p : Int} {r : Nat} (h : zRR a b) (hx : 0 ≤ x ∧ x ≤ 1) (hy : 1 ≤ y) (ha : zLea a a1 x y r) (hp : 4 * x ≤ p ∧ p ≤ 4 * x + 3) (hb : (b.1 50 0 p.toNat = y ∧ b = b1) ∨ zHr b b1 x y p) : zRR a1 b1 ∧ zPr a1 b1 r p.toNat := by
  obtain ⟨h1, h2, h3⟩ := ha
  have hin := zNm2_in h.1.1 (f := x.toNat) (x := y) (by omega) (by omega)
  rcases h3 with ⟨g1, rfl⟩ | g
  · rcases hb with ⟨k1, rfl⟩ | k
    · exact ⟨h, h1.1, by omega, by omega, by rw [g1, k1], by rw [k1]; omega⟩
    · exact absurd g1 (by have := hin.2 k.1 (r - 4 * x.toNat) (by omega); rw [show 4 * x.toNat + (r - 4 * x.toNat) = r by omega] at this; exact this)
  · rcases hb with ⟨k1, rfl⟩ | k
    · exact absurd k1 (by have := hin.1 g.1 (p.toNat - 4 * x.toNat) (by omega); rw [show 4 * x.toNat + (p.toNat - 4 * x.toNat) = p.toNat by omega] at this; exact this)
    · exact zst_new h hx hy h1 h2 g hp k
