/-! Both receivers side by side: files held for each other, both ends alike. -/
theorem zst_share {a a1 b b1 : wm} {f : Nat} (h : zRR a b) (hf : f < 2) (ha : zHk (f : Int) a a1) (hac : zHcl a1 (f : Int)) (hb : zBk (f : Int) b b1) (hbc : zBcl b1 (f : Int)) : zRR a1 b1 := by
  obtain ⟨n, hn⟩ := ha
  obtain ⟨k, hk⟩ := hb
  have sA := zA1 h.1 (x := (f : Int)) (by omega) n a1 hn
  rw [Int.toNat_natCast] at sA
  have sB := zB1 h.1 hf k b1 hk
  have eH : ∀ t p, zPr a b t p → ∀ i, i < 7 → (a1.1 29 t i = 1 ↔ b1.1 57 0 (7 * p + i) = 1) := fun t p hp i hi => ⟨zA2 h.1 hf sB hbc n a1 hn t p hp i hi, zB2 h.1 hf sA hac k b1 hk t p hp i hi⟩
  have e26 : ∀ t j, a1.1 26 t j = a.1 26 t j := fun t j => (sA.1 26 t j (Or.inl rfl)).1
  have e30 : ∀ t j, a1.1 30 t j = a.1 30 t j ∧ a1.1 31 t j = a.1 31 t j ∧ a1.1 32 t j = a.1 32 t j ∧ a1.2.1 33 t j = a.2.1 33 t j := fun t j => ⟨(sA.1 30 t j (Or.inr (by omega))).1, (sA.1 31 t j (Or.inr (by omega))).1, (sA.1 32 t j (Or.inr (by omega))).1, (sA.1 33 t j (Or.inr (by omega))).2⟩
  have ek : b1.1 50 0 = b.1 50 0 := funext fun j => sB.1 50 j (by omega)
  have en : zcn0 a1 = zcn0 a := funext fun t => e26 t 7
  have hPr : ∀ t p, zPr a1 b1 t p → zPr a b t p := fun t p hp => by
    obtain ⟨p1, p2, p3, p4, p5⟩ := hp
    rw [e26, ek] at p4
    rw [ek] at p5
    exact ⟨p1, p2, p3, p4, p5⟩
  have hit : ∀ t p, zPr a b t p → ∀ i, i < 7 → (zIe a a1 t i ∧ zJe b b1 (7 * p + i)) ∨ (zIn9 f a a1 t i ∧ zJn f (zTt9 b) b b1 (7 * p + i)) := fun t p hp i hi => by
    have v4 := (h.1.2.1 t p hp).1.2.2.1 i hi
    have eh := eH t p hp i hi
    have p2 := hp.2.1
    rcases sA.2.1 t i hp.1 hi with z | z
    · rcases sB.2.1 (7 * p + i) (by omega) with y | y
      · exact Or.inl ⟨z, y⟩
      · have := eh.2 y.2.1
        rw [z.1, v4] at this
        exact absurd this y.1
    · rcases sB.2.1 (7 * p + i) (by omega) with y | y
      · have := eh.1 z.2.1
        rw [y.1, ← v4] at this
        exact absurd this z.1
      · exact Or.inr ⟨z, y⟩
  have hT : ∀ t p, zPr a b t p → ∀ i, i < 7 → zIn9 f a a1 t i → zTt9 b p i = a.1 32 t (i - 1) := fun t p hp i hi z => by
    obtain ⟨c1, -⟩ := (h.1.2.1 t p hp).2
    have hg : a.1 26 t 10 = 1 := by
      rcases c1 with y | y
      · exact y
      · have := z.2.2.2.2.1; have := z.2.2.2.1; omega
    exact (zst_told h.1 hp hg z.2.2.2.1 z.2.2.2.2.1).1.symm
  have hka : ∀ q bk, zqk (b.1 50 0) q bk → zkaC a a1 (zkey (b.1 50 0) q bk) = zkbR b b1 q := fun q bk hq => by
    obtain ⟨q1, q2, q3, q4, q5⟩ := hq
    obtain ⟨t, t1, t2, t3⟩ := h.1.1.2.2.2.2 (q / 7).toNat (by omega) q5
    have t3' : a.1 26 t 7 = b.1 50 0 (q / 7).toNat := t3
    have hp : zPr a b t (q / 7).toNat := ⟨t1, by omega, t2, t3', q5⟩
    have v4 := (h.1.2.1 t _ hp).1.2.2.1 (q % 7).toNat (by omega)
    have eh := eH t _ hp (q % 7).toNat (by omega)
    rw [show 7 * (q / 7).toNat + (q % 7).toNat = q.toNat by omega] at v4 eh
    apply Bool.eq_iff_iff.2
    unfold zkbR
    rw [zkaC_i, decide_eq_true_iff]
    constructor
    · rintro c ⟨d1, d2⟩
      refine c ⟨t, t1⟩ ⟨(q % 7).toNat, by omega⟩ ⟨eh.2 d1, by show a.1 29 t (q % 7).toNat ≠ 1; rw [v4]; exact d2, ?_, ?_⟩
      · show zKt a t (q % 7).toNat ≤ _
        unfold zKt zkey
        rw [t3']; omega
      · show _ ≤ zKt a t (q % 7).toNat + 1
        unfold zKt zkey
        rw [t3']; omega
    · rintro c t' i' ⟨d1, d2, d3, d4⟩
      unfold zKt zkey at d3 d4
      have i7 := i'.2
      have t8 := t'.2
      have e1 : a.1 26 t'.1 7 = b.1 50 0 (q / 7).toNat := by omega
      have e2 : i'.1 = (q % 7).toNat := by omega
      have e3 : t'.1 / 4 = t / 4 := by omega
      have e4 : t'.1 = t := h.1.1.2.2.1 t'.1 t t8 t1 e3 (by show a.1 26 t'.1 7 = a.1 26 t 7; rw [e1, t3']) (by show a.1 26 t'.1 7 ≠ 0; rw [e1]; exact q5)
      rw [e4, e2] at d1 d2
      exact c ⟨eh.1 d1, by rw [← v4]; exact d2⟩
  have hRw : zRw2 (zLC a1) (zLR b1) (b.1 50 0) := by
    rw [sA.2.2, sB.2.2]
    exact zRw2_f (ka := zkaC a a1) (kb := fun q _ => zkbR b b1 q) h.1.2.2.1 hka
  have lS : (zLC a1).Sublist (zLC a) := by rw [sA.2.2]; exact List.filter_sublist
  have hstay : ∀ q, zkbR b b1 q = true → 0 ≤ q → q < 56 → zJe b b1 q.toNat := fun q hq h0 h1 => by
    have z := zkbR_i.1 hq
    rcases sB.2.1 q.toNat (by omega) with y | y
    · exact y
    · exact absurd ⟨y.2.1, y.1⟩ z
  have hhas : ∀ q, q < 56 → zJe b b1 q → (zHas b1 q ↔ zHas b q) := fun q hq y => by
    rw [zHas_L, zHas_L, y.2.2.1, y.2.2.2.1, sB.2.2]
    refine or_congr Iff.rfl (or_congr Iff.rfl ⟨fun ⟨r, r1, r2⟩ => ⟨r, (List.mem_filter.1 r1).1, r2⟩, fun ⟨r, r1, r2⟩ => ⟨r, List.mem_filter.2 ⟨r1, zkbR_i.2 ?_⟩, r2⟩⟩)
    rw [r2, Int.toNat_natCast, y.1]
    exact fun z => z.2 z.1
  refine ⟨⟨by rw [en, ek]; exact h.1.1, fun t p htp => ?_, by rw [ek]; exact hRw, zMb_sub h.1.2.2.2.1 lS (fun p _ => by rw [ek]) (fun q bk hq hr => ?_), zCe_f h.1.2.2.2.2.1 sA.2.2, zRb_f h.1.2.2.2.2.2.1 sB.2.2, fun q hq hh => ?_, fun t ht h0 => ?_, fun p hp h0 => ?_⟩, fun q hq hh => ?_⟩
  · have hp := hPr t p htp
    obtain ⟨⟨⟨v1, v2⟩, v3, v4, v5, v6⟩, c1, c2, c3⟩ := h.1.2.1 t p hp
    have it := hit t p hp
    have hT' := hT t p hp
    have p2 := hp.2.1
    have i0 : zIe a a1 t 0 := by
      rcases it 0 (by decide) with z | z
      · exact z.1
      · have := z.1.2.2.2.1; omega
    have e0 : zBat a1 (101 + 7 * t + 0) = zBat a (101 + 7 * t + 0) := by
      funext x
      unfold zBat
      rw [i0.2.2.2.1, i0.2.2.2.2]
    have eC : ∀ i, zIe a a1 t i → (zCpx a1 t i ↔ zCpx a t i) := fun i z => by unfold zCpx; rw [z.2.1, z.2.2.1, z.2.2.2.1]
    refine ⟨⟨⟨by rw [e26, sB.1 51 _ (by omega)]; exact v1, by rw [e26, sB.1 52 _ (by omega)]; exact v2⟩, fun j hj => ?_, fun i hi => ?_, fun i hi h0 => ?_, fun i j hi hh hj hs hl => ?_⟩, by rw [e26, e26]; exact c1, fun z => ?_, fun i hi z => ?_⟩
    · have w := v3 j hj
      rcases it (j / 2) (by omega) with ⟨z, y⟩ | ⟨z, y⟩
      · by_cases e : j % 2 = 0
        · have z1 := z.2.1
          have y1 := y.2.2.1
          rw [show 2 * (j / 2) = j by omega] at z1
          rw [show 2 * (7 * p + j / 2) = 14 * p + j by omega] at y1
          rw [z1, y1]; exact w
        · have z1 := z.2.2.1
          have y1 := y.2.2.2.1
          rw [show 2 * (j / 2) + 1 = j by omega] at z1
          rw [show 2 * (7 * p + j / 2) + 1 = 14 * p + j by omega] at y1
          rw [z1, y1]; exact w
      · have hT2 := hT' (j / 2) (by omega) z
        obtain ⟨z1, z2, z3, z4, z5, z6, z7, z8⟩ := z
        obtain ⟨y1, y2, y3, y4, y5, y6, y7, y8, y9, -⟩ := y
        by_cases e : j % 2 = 0
        · rw [show 2 * (j / 2) = j by omega] at z7
          rw [show 2 * (7 * p + j / 2) = 14 * p + j by omega] at y8
          rw [z7, y8]
        · rw [show 2 * (j / 2) + 1 = j by omega] at z8
          rw [show 2 * (7 * p + j / 2) + 1 = 14 * p + j by omega, show (7 * p + j / 2) / 7 = p by omega, show (7 * p + j / 2) % 7 = j / 2 by omega, hT2] at y9
          rw [z8, y9]
    · rcases it i hi with ⟨z, y⟩ | ⟨z, y⟩
      · rw [z.1, y.1]; exact v4 i hi
      · rw [z.2.1, y.2.1]
    · rcases it i hi with ⟨z, y⟩ | ⟨z, y⟩
      · rw [y.2.1] at h0 ⊢
        rw [z.2.2.2.1]; exact v5 i hi h0
      · have hT2 := hT' i hi z
        obtain ⟨-, -, -, -, -, -, y7, -⟩ := y
        rw [show (7 * p + i) / 7 = p by omega, show (7 * p + i) % 7 = i by omega, hT2] at y7
        rw [z.2.2.2.2.2.1, y7]
    · rcases it i hi with ⟨z, y⟩ | ⟨z, y⟩
      · rw [z.1] at hh
        rw [y.2.1] at hl
        have hs' : a.1 28 t (2 * i + j / 64) = 1 := by
          by_cases e : j / 64 = 0
          · rw [e] at hs ⊢
            have := z.2.1
            rw [show 2 * i + 0 = 2 * i from rfl] at hs ⊢
            rw [← this]; exact hs
          · rw [show j / 64 = 1 by omega] at hs ⊢
            rw [← z.2.2.1]; exact hs
        rw [z.2.2.2.2 j, y.2.2.2.2 j hj]
        exact v6 i j hi hh hj hs' hl
      · rcases hh with e | e
        · have := z.2.2.2.1; omega
        · exact absurd z.2.1 e
    · rw [e26] at z
      obtain ⟨w1, w2, w3, w4⟩ := c2 z
      refine ⟨(eC 0 i0).2 w1, ?_, by rw [e26, e0]; exact w3, fun j hj => ?_⟩
      · unfold zMs at w2 ⊢
        rw [i0.2.2.2.1, e26, e0]; exact w2
      · rw [e26] at hj
        rw [e0]; exact zTm_e (fun j => e30 t j) (w4 j hj)
    · rcases it i hi with ⟨y, -⟩ | ⟨y, -⟩
      · rw [y.1] at z
        obtain ⟨w1, w2, w3, w4, w5⟩ := c3 i hi z
        exact ⟨w1, by rw [e26]; exact w2, by rw [e26]; exact w3, (eC i y).2 w4, by rw [y.2.2.2.1, (e30 t (i - 1)).2.2.1]; exact w5⟩
      · obtain ⟨z1, z2, z3, z4, z5, z6, z7, z8⟩ := y
        refine ⟨z4, by rw [e26]; exact z5, ?_, ⟨z7, ?_⟩, by rw [z6, (e30 t (i - 1)).2.2.1]⟩
        · rw [e26]
          rcases c1 with y | y
          · exact y
          · omega
        · rw [z6, z8]
          by_cases e : 64 < a.1 32 t (i - 1)
          · rw [if_pos e]; exact Or.inl rfl
          · exact Or.inr (by omega)
  · obtain ⟨r, r1, r2⟩ := hr
    rw [sA.2.2] at r1
    have z := (List.mem_filter.1 r1).2
    rw [r2, hka q bk hq] at z
    exact (hstay q z hq.1 hq.2.1).2.1
  · rcases sB.2.1 q hq with y | y
    · rw [y.2.1]; exact h.1.2.2.2.2.2.2.1 q hq ((hhas q hq y).1 hh)
    · obtain ⟨-, -, -, -, -, -, y7, -, -, y0⟩ := y
      rw [y7]; exact y0
  · rw [e26] at h0 ⊢; exact h.1.2.2.2.2.2.2.2.1 t ht h0
  · rw [ek] at h0
    obtain ⟨y1, y2⟩ := h.1.2.2.2.2.2.2.2.2 p hp h0
    refine ⟨by rw [sB.1 51 _ (by omega)]; exact y1, fun i hi => ?_⟩
    rcases sB.2.1 (7 * p + i) (by omega) with y | y
    · rw [y.1]; exact y2 i hi
    · have := y.2.2.2.2.1
      rw [show (7 * p + i) / 7 = p by omega] at this
      omega
  · rcases sB.2.1 q hq with y | y
    · rw [y.2.1]; exact h.2 q hq (fun z => hh ((hhas q hq y).2 z))
    · exact absurd (zHas_L.2 (Or.inl y.2.2.2.2.2.2.2.1)) hh
