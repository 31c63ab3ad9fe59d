/-! Both receivers side by side: what each knows of a version. -/
def zPr (a b : wm) (t p : Nat) : Prop := t < 8 ∧ p < 8 ∧ t / 4 = p / 4 ∧ a.1 26 t 7 = b.1 50 0 p ∧ b.1 50 0 p ≠ 0
def zVr (a b : wm) (t p : Nat) : Prop := (a.1 26 t 10 = b.1 51 0 p ∧ a.1 26 t 9 = b.1 52 0 p) ∧ (∀ j, j < 14 → a.1 28 t j = b.1 55 0 (14 * p + j)) ∧ (∀ i, i < 7 → a.1 29 t i = b.1 57 0 (7 * p + i)) ∧ (∀ i, i < 7 → 0 ≤ b.1 54 0 (7 * p + i) → a.1 1 (101 + 7 * t + i) 1 = b.1 54 0 (7 * p + i)) ∧ ∀ i j : Nat, i < 7 → (i = 0 ∨ a.1 29 t i ≠ 1) → j < 104 → a.1 28 t (2 * i + j / 64) = 1 → (j : Int) < b.1 54 0 (7 * p + i) → a.1 2 (101 + 7 * t + i) j = b.1 56 0 (104 * (7 * p + i) + j)
def zVc (a : wm) (t : Nat) : Prop := (a.1 26 t 10 = 1 ∨ (a.1 26 t 10 = 0 ∧ a.1 26 t 9 = 0)) ∧ (a.1 26 t 10 = 1 → zCpx a t 0 ∧ zMs a t ∧ a.1 26 t 9 = zBat a (101 + 7 * t + 0) 2 ∧ ∀ j : Nat, (j : Int) < a.1 26 t 9 → zTm a t (zBat a (101 + 7 * t + 0)) j) ∧ ∀ i : Nat, i < 7 → a.1 29 t i = 1 → 1 ≤ i ∧ (i : Int) ≤ a.1 26 t 9 ∧ a.1 26 t 10 = 1 ∧ zCpx a t i ∧ a.1 1 (101 + 7 * t + i) 1 = a.1 32 t (i - 1)
/-- a place without a version has no files -/
def zU (a b : wm) : Prop := (∀ t, t < 8 → a.1 26 t 7 = 0 → a.1 26 t 9 = 0) ∧ ∀ p, p < 8 → b.1 50 0 p = 0 → b.1 51 0 p = 0 ∧ ∀ i, i < 7 → b.1 57 0 (7 * p + i) = 0
def zS1 (b : wm) : Prop := ∀ q, q < 56 → zHas b q → 0 ≤ b.1 54 0 q
def zS2 (b : wm) : Prop := ∀ q, q < 56 → ¬ zHas b q → b.1 54 0 q = -1
def zMb (a b : wm) : Prop := ∀ q bk : Int, zqk (b.1 50 0) q bk → ∀ r, r ∈ zLC a → r.1 = zkey (b.1 50 0) q bk → r.2.1.toNat < 2 ^ (zpc (b.1 54 0 q.toNat) bk).toNat
def zcn0 (a : wm) : Nat → Int := fun t => a.1 26 t 7
def zR0 (a b : wm) : Prop := zNm2 (zcn0 a) (b.1 50 0) ∧ (∀ t p, zPr a b t p → zVr a b t p ∧ zVc a t) ∧ zRw2 (zLC a) (zLR b) (b.1 50 0) ∧ zMb a b ∧ zCe a ∧ zRb b ∧ zS1 b ∧ zU a b
def zRR (a b : wm) : Prop := zR0 a b ∧ zS2 b
def zVa (a a1 : wm) (t : Nat) : Prop := (a1.1 26 t 9 = a.1 26 t 9 ∧ a1.1 26 t 10 = a.1 26 t 10) ∧ (∀ j, a1.1 28 t j = a.1 28 t j) ∧ (∀ j, a1.1 29 t j = a.1 29 t j) ∧ (∀ i, i < 7 → a1.1 1 (101 + 7 * t + i) 1 = a.1 1 (101 + 7 * t + i) 1 ∧ ∀ j, a1.1 2 (101 + 7 * t + i) j = a.1 2 (101 + 7 * t + i) j) ∧ ∀ j, a1.1 30 t j = a.1 30 t j ∧ a1.1 31 t j = a.1 31 t j ∧ a1.1 32 t j = a.1 32 t j ∧ a1.2.1 33 t j = a.2.1 33 t j
def zVb (b b1 : wm) (p p1 : Nat) : Prop := (b1.1 51 0 p1 = b.1 51 0 p ∧ b1.1 52 0 p1 = b.1 52 0 p) ∧ (∀ j, j < 14 → b1.1 55 0 (14 * p1 + j) = b.1 55 0 (14 * p + j)) ∧ (∀ i, i < 7 → b1.1 57 0 (7 * p1 + i) = b.1 57 0 (7 * p + i)) ∧ (∀ i, i < 7 → b1.1 54 0 (7 * p1 + i) = b.1 54 0 (7 * p + i) ∨ b1.1 54 0 (7 * p1 + i) = -1) ∧ ∀ j, j < 728 → b1.1 56 0 (728 * p1 + j) = b.1 56 0 (728 * p + j)
theorem zVa_rf {a : wm} {t : Nat} : zVa a a t := ⟨⟨rfl, rfl⟩, fun _ => rfl, fun _ => rfl, fun _ _ => ⟨rfl, fun _ => rfl⟩, fun _ => ⟨rfl, rfl, rfl, rfl⟩⟩
theorem zVb_rf {b : wm} {p : Nat} : zVb b b p p := ⟨⟨rfl, rfl⟩, fun _ _ => rfl, fun _ _ => rfl, fun _ _ => Or.inl rfl, fun _ _ => rfl⟩
theorem zVa_fr {e : Nat → Nat → Nat → Prop} {a a1 : wm} {t : Nat} (hf : zfr e a a1) (h1 : ¬ e 26 t 9 ∧ ¬ e 26 t 10) (h2 : ∀ k j, 28 ≤ k → k ≤ 33 → ¬ e k t j) (h3 : ∀ i, i < 7 → ¬ e 1 (101 + 7 * t + i) 1 ∧ ∀ j, ¬ e 2 (101 + 7 * t + i) j) : zVa a a1 t :=
  ⟨⟨(hf _ _ _ h1.1).1, (hf _ _ _ h1.2).1⟩, fun j => (hf _ _ _ (h2 28 j (by decide) (by decide))).1, fun j => (hf _ _ _ (h2 29 j (by decide) (by decide))).1, fun i hi => ⟨(hf _ _ _ (h3 i hi).1).1, fun j => (hf _ _ _ ((h3 i hi).2 j)).1⟩, fun j => ⟨(hf _ _ _ (h2 30 j (by decide) (by decide))).1, (hf _ _ _ (h2 31 j (by decide) (by decide))).1, (hf _ _ _ (h2 32 j (by decide) (by decide))).1, (hf _ _ _ (h2 33 j (by decide) (by decide))).2.1⟩⟩
theorem zVb_fr {e : Nat → Nat → Nat → Prop} {b b1 : wm} {p : Nat} (hf : zfr e b b1) (h : ∀ k j, 51 ≤ k → k ≤ 57 → k ≠ 53 → ¬ e k 0 j) : zVb b b1 p p :=
  ⟨⟨(hf _ _ _ (h 51 _ (by decide) (by decide) (by decide))).1, (hf _ _ _ (h 52 _ (by decide) (by decide) (by decide))).1⟩, fun j _ => (hf _ _ _ (h 55 _ (by decide) (by decide) (by decide))).1, fun j _ => (hf _ _ _ (h 57 _ (by decide) (by decide) (by decide))).1, fun j _ => Or.inl (hf _ _ _ (h 54 _ (by decide) (by decide) (by decide))).1, fun j _ => (hf _ _ _ (h 56 _ (by decide) (by decide) (by decide))).1⟩
theorem zVr_ab {a a1 b b1 : wm} {t p p1 : Nat} (h : zVr a b t p) (ha : zVa a a1 t) (hb : zVb b b1 p p1) : zVr a1 b1 t p1 := by
  obtain ⟨⟨h1, h2⟩, h3, h4, h5, h6⟩ := h
  obtain ⟨⟨a1', a2⟩, a3, a4, a5, a6⟩ := ha
  obtain ⟨⟨b1', b2⟩, b3, b4, b5, b6⟩ := hb
  refine ⟨⟨by rw [a2, b1', h1], by rw [a1', b2, h2]⟩, fun j hj => by rw [a3, b3 j hj, h3 j hj], fun i hi => by rw [a4, b4 i hi, h4 i hi], fun i hi h0 => ?_, fun i j hi hh hj hs hl => ?_⟩
  · rcases b5 i hi with z | z
    · rw [(a5 i hi).1, z]; rw [z] at h0; exact h5 i hi h0
    · omega
  · rcases b5 i hi with z | z
    · rw [a4] at hh
      rw [a3] at hs
      rw [z] at hl
      rw [(a5 i hi).2 j, h6 i j hi hh hj hs hl, show 104 * (7 * p1 + i) + j = 728 * p1 + (104 * i + j) by omega, b6 _ (by omega), show 104 * (7 * p + i) + j = 728 * p + (104 * i + j) by omega]
    · omega
theorem zBat_va {a a1 : wm} {t i : Nat} (ha : zVa a a1 t) (hi : i < 7) : zBat a1 (101 + 7 * t + i) = zBat a (101 + 7 * t + i) := by
  funext x
  unfold zBat
  rw [(ha.2.2.2.1 i hi).1, (ha.2.2.2.1 i hi).2]
theorem zCpx_a {a a1 : wm} {t i : Nat} (ha : zVa a a1 t) (hi : i < 7) : zCpx a1 t i ↔ zCpx a t i := by
  unfold zCpx
  rw [ha.2.1, ha.2.1, (ha.2.2.2.1 i hi).1]
theorem zTm_e {a a1 : wm} {t j : Nat} {f : Int → Int} (h : ∀ j, a1.1 30 t j = a.1 30 t j ∧ a1.1 31 t j = a.1 31 t j ∧ a1.1 32 t j = a.1 32 t j ∧ a1.2.1 33 t j = a.2.1 33 t j) (y : zTm a t f j) : zTm a1 t f j := by
  unfold zTm at y ⊢
  rw [(h j).1, (h j).2.1, (h j).2.2.1, (h j).2.2.2]
  exact y
theorem zVc_a {a a1 : wm} {t : Nat} (h : zVc a t) (ha : zVa a a1 t) (hn : a1.1 26 t 7 = a.1 26 t 7) : zVc a1 t := by
  obtain ⟨h1, h2, h3⟩ := h
  have e0 := zBat_va ha (i := 0) (by decide)
  have ec : ∀ i, i < 7 → (zCpx a1 t i ↔ zCpx a t i) := fun i hi => zCpx_a ha hi
  obtain ⟨⟨a1', a2⟩, a3, a4, a5, a6⟩ := ha
  refine ⟨by rw [a2, a1']; exact h1, fun z => ?_, fun i hi7 z => ?_⟩
  · rw [a2] at z
    obtain ⟨w1, w2, w3, w4⟩ := h2 z
    refine ⟨(ec 0 (by decide)).2 w1, ?_, by rw [a1', e0]; exact w3, fun j hj => ?_⟩
    · unfold zMs at w2 ⊢
      rw [(a5 0 (by decide)).1, hn, e0]; exact w2
    · rw [a1'] at hj
      rw [e0]
      exact zTm_e a6 (w4 j hj)
  · rw [a4] at z
    obtain ⟨w1, w2, w3, w4, w5⟩ := h3 i hi7 z
    exact ⟨w1, by rw [a1']; exact w2, by rw [a2]; exact w3, (ec i hi7).2 w4, by rw [(a5 i hi7).1, (a6 (i - 1)).2.2.1]; exact w5⟩
/-- one version changed on both sides, rows too -/
theorem zR0_up {a a1 b b1 : wm} (h : zR0 a b) {u pu : Nat} (hn : ∀ t, t < 8 → a1.1 26 t 7 = a.1 26 t 7) (hk : ∀ p, p < 8 → b1.1 50 0 p = b.1 50 0 p) (hp : zPr a b u pu) (hv : zVr a1 b1 u pu ∧ zVc a1 u) (ha : ∀ t, t < 8 → t ≠ u → zVa a a1 t) (hb : ∀ p, p < 8 → p ≠ pu → zVb b b1 p p) (hr : zRw2 (zLC a1) (zLR b1) (b.1 50 0)) (hm : zMb a1 b1) (hc : zCe a1) (hb2 : zRb b1) (hs : zS1 b1) : zR0 a1 b1 := by
  have hU := h.2.2.2.2.2.2.2
  obtain ⟨h1, h2, -⟩ := h
  have hN : zNm2 (zcn0 a1) (b1.1 50 0) := by
    obtain ⟨n1, n2, n3, n4, n5⟩ := h1
    refine ⟨fun p hp => ⟨by rw [hk p hp]; exact (n1 p hp).1, fun h9 => by rw [hk p hp, hk (p + 1) (by omega)]; exact (n1 p hp).2 h9⟩, fun t ht => by show 0 ≤ a1.1 26 t 7; rw [hn t ht]; exact n2 t ht, fun t t' ht ht' hff he h0 => ?_, fun t ht h0 => ?_, fun p hp h0 => ?_⟩
    · have he' : a1.1 26 t 7 = a1.1 26 t' 7 := he
      have h0' : a1.1 26 t 7 ≠ 0 := h0
      rw [hn t ht, hn t' ht'] at he'
      rw [hn t ht] at h0'
      exact n3 t t' ht ht' hff he' h0'
    · have h0' : a1.1 26 t 7 ≠ 0 := h0
      rw [hn t ht] at h0'
      obtain ⟨p, p1, p2, p3⟩ := n4 t ht h0'
      exact ⟨p, p1, p2, by show b1.1 50 0 p = a1.1 26 t 7; rw [hk p p1, hn t ht]; exact p3⟩
    · rw [hk p hp] at h0
      obtain ⟨t, t1, t2, t3⟩ := n5 p hp h0
      exact ⟨t, t1, t2, by show a1.1 26 t 7 = b1.1 50 0 p; rw [hk p hp, hn t t1]; exact t3⟩
  have hU1 : zU a1 b1 := by
    refine ⟨fun t ht h0 => ?_, fun p hp' h0 => ?_⟩
    · rw [hn t ht] at h0
      by_cases e : t = u
      · rw [e, hp.2.2.2.1] at h0; exact absurd h0 hp.2.2.2.2
      · rw [(ha t ht e).1.1]; exact hU.1 t ht h0
    · rw [hk p hp'] at h0
      by_cases e : p = pu
      · rw [e] at h0; exact absurd h0 hp.2.2.2.2
      · obtain ⟨y1, y2⟩ := hU.2 p hp' h0
        exact ⟨by rw [(hb p hp' e).1.1]; exact y1, fun i hi => by rw [(hb p hp' e).2.2.1 i hi]; exact y2 i hi⟩
  refine ⟨hN, fun t p htp => ?_, zRw2_kn hr hk, hm, hc, hb2, hs, hU1⟩
  obtain ⟨p1, p2, p3, p4, p5⟩ := htp
  rw [hn t p1, hk p p2] at p4
  rw [hk p p2] at p5
  obtain ⟨q1, q2, q3, q4, q5⟩ := hp
  by_cases e : t = u
  · have ep : p = pu := zSo_u h1.1 p2 q2 (by omega) (by rw [← p4, e, q4]) p5
    rw [e, ep]; exact hv
  · have ep : p ≠ pu := fun ep => e (h1.2.2.1 t u p1 q1 (by omega) (by show a.1 26 t 7 = a.1 26 u 7; rw [p4, q4, ep]) (by show a.1 26 t 7 ≠ 0; rw [p4]; exact p5))
    obtain ⟨w1, w2⟩ := h2 t p ⟨p1, p2, p3, p4, p5⟩
    exact ⟨zVr_ab w1 (ha t p1 e) (hb p p2 ep), zVc_a w2 (ha t p1 e) (hn t p1)⟩
/-- nothing of the versions changed, rows did -/
theorem zR0_rw {a a1 b b1 : wm} (h : zR0 a b) (hn : ∀ t, t < 8 → a1.1 26 t 7 = a.1 26 t 7) (hk : ∀ p, p < 8 → b1.1 50 0 p = b.1 50 0 p) (ha : ∀ t, t < 8 → zVa a a1 t) (hb : ∀ p, p < 8 → zVb b b1 p p) (hr : zRw2 (zLC a1) (zLR b1) (b.1 50 0)) (hm : zMb a1 b1) (hc : zCe a1) (hb2 : zRb b1) (hs : zS1 b1) : zR0 a1 b1 := by
  by_cases e : ∃ u pu, zPr a b u pu
  · obtain ⟨u, pu, hp⟩ := e
    exact zR0_up h hn hk hp ⟨zVr_ab (h.2.1 u pu hp).1 (ha u hp.1) (hb pu hp.2.1), zVc_a (h.2.1 u pu hp).2 (ha u hp.1) (hn u hp.1)⟩ (fun t ht _ => ha t ht) (fun p hp _ => hb p hp) hr hm hc hb2 hs
  · have hU := h.2.2.2.2.2.2.2
    obtain ⟨⟨n1, n2, n3, n4, n5⟩, h2, -⟩ := h
    have z1 : ∀ t, t < 8 → a.1 26 t 7 = 0 := fun t ht => Decidable.byContradiction fun h0 => by
      obtain ⟨p, p1, p2, p3⟩ := n4 t ht h0
      have p3' : b.1 50 0 p = a.1 26 t 7 := p3
      exact e ⟨t, p, ht, p1, p2.symm, p3'.symm, by rw [p3']; exact h0⟩
    have z2 : ∀ p, p < 8 → b.1 50 0 p = 0 := fun p hp => Decidable.byContradiction fun h0 => by
      obtain ⟨t, t1, t2, t3⟩ := n5 p hp h0
      exact e ⟨t, p, t1, hp, t2, t3, h0⟩
    have y1 : ∀ t, t < 8 → zcn0 a1 t = 0 := fun t ht => by show a1.1 26 t 7 = 0; rw [hn t ht]; exact z1 t ht
    have y2 : ∀ p, p < 8 → b1.1 50 0 p = 0 := fun p hp => by rw [hk p hp]; exact z2 p hp
    refine ⟨⟨fun p hp => ⟨by rw [y2 p hp]; omega, fun _ => Or.inl (y2 p hp)⟩, fun t ht => by rw [y1 t ht]; omega, fun t t' ht _ _ _ h0 => absurd (y1 t ht) h0, fun t ht h0 => absurd (y1 t ht) h0, fun p hp h0 => absurd (y2 p hp) h0⟩, fun t p htp => absurd (y2 p htp.2.1) htp.2.2.2.2, zRw2_kn hr hk, hm, hc, hb2, hs, fun t ht _ => by rw [(ha t ht).1.1]; exact hU.1 t ht (z1 t ht), fun p hp _ => ⟨by rw [(hb p hp).1.1]; exact (hU.2 p hp (z2 p hp)).1, fun i hi => by rw [(hb p hp).2.2.1 i hi]; exact (hU.2 p hp (z2 p hp)).2 i hi⟩⟩
/-- fewer rows -/
theorem zMb_sub {a a1 b b1 : wm} (h : zMb a b) (hl : (zLC a1).Sublist (zLC a)) (hk : ∀ p, p < 8 → b1.1 50 0 p = b.1 50 0 p) (hs : ∀ q bk : Int, zqk (b.1 50 0) q bk → (∃ r, r ∈ zLC a1 ∧ r.1 = zkey (b.1 50 0) q bk) → b1.1 54 0 q.toNat = b.1 54 0 q.toNat) : zMb a1 b1 := fun q bk hq r hr he => by
  obtain ⟨q1, q2, q3, q4, q5⟩ := hq
  have e1 := hk (q / 7).toNat (by omega)
  rw [e1] at q5
  have e2 : zkey (b1.1 50 0) q bk = zkey (b.1 50 0) q bk := by unfold zkey; rw [e1]
  rw [e2] at he
  rw [hs q bk ⟨q1, q2, q3, q4, q5⟩ ⟨r, hr, he⟩]
  exact h q bk ⟨q1, q2, q3, q4, q5⟩ r (hl.subset hr) he
theorem zHas_L {b : wm} {q : Nat} : zHas b q ↔ b.1 55 0 (2 * q) = 1 ∨ b.1 55 0 (2 * q + 1) = 1 ∨ ∃ r, r ∈ zLR b ∧ r.1 = (q : Int) := by
  unfold zHas
  constructor
  · rintro (h | h | ⟨r, h1, h2⟩)
    · exact Or.inl h
    · exact Or.inr (Or.inl h)
    · exact Or.inr (Or.inr ⟨_, List.mem_map.2 ⟨r, List.mem_range.2 h1, rfl⟩, h2⟩)
  · rintro (h | h | ⟨r, h1, h2⟩)
    · exact Or.inl h
    · exact Or.inr (Or.inl h)
    · obtain ⟨j, j1, rfl⟩ := List.mem_map.1 h1
      exact Or.inr (Or.inr ⟨j, List.mem_range.1 j1, h2⟩)
theorem zS1_sub {b b1 : wm} (h : zS1 b) (h55 : ∀ j, j < 112 → b1.1 55 0 j = b.1 55 0 j) (h54 : ∀ q, q < 56 → zHas b1 q → b1.1 54 0 q = b.1 54 0 q) (hl : ∀ r, r ∈ zLR b1 → r ∈ zLR b) : zS1 b1 := fun q hq hh => by
  rw [h54 q hq hh]
  refine h q hq (zHas_L.2 ?_)
  rcases zHas_L.1 hh with z | z | ⟨r, r1, r2⟩
  · exact Or.inl (by rw [← h55 _ (by omega)]; exact z)
  · exact Or.inr (Or.inl (by rw [← h55 _ (by omega)]; exact z))
  · exact Or.inr (Or.inr ⟨r, hl r r1, r2⟩)
/-- sizes taken away where nothing is left -/
theorem zR0_us {a b b1 : wm} (h : zR0 a b) (hf : zfr zeS b b1) (hu : zUf b b1 56) : zRR a b1 := by
  have f : ∀ k j, k ≠ 54 → b1.1 k 0 j = b.1 k 0 j := fun k j hk => (hf k 0 j hk).1
  have hL : zLR b1 = zLR b := zLR_e hf (fun k j z => by unfold zeS at z; omega)
  have hh : ∀ q, zHas b1 q ↔ zHas b q := fun q => by
    rw [zHas_L, zHas_L, hL, f 55 _ (by decide), f 55 _ (by decide)]
  have s1 : ∀ q, q < 56 → zHas b q → b1.1 54 0 q = b.1 54 0 q := fun q hq z => ((hu q hq).1 (by omega)).1 z
  have s2 : ∀ q, q < 56 → ¬ zHas b q → b1.1 54 0 q = -1 := fun q hq z => ((hu q hq).1 (by omega)).2 z
  refine ⟨?_, fun q hq z => s2 q hq (fun y => z ((hh q).2 y))⟩
  have h' := h
  obtain ⟨h1, h2, h3, h4, h5, h6, h7, -⟩ := h
  have e50 : ∀ p, p < 8 → b1.1 50 0 p = b.1 50 0 p := fun p _ => f 50 p (by decide)
  refine zR0_rw h' (fun _ _ => rfl) e50 (fun _ _ => zVa_rf) (fun p hp => ⟨⟨f 51 _ (by decide), f 52 _ (by decide)⟩, fun j _ => f 55 _ (by decide), fun j _ => f 57 _ (by decide), fun i hi => ?_, fun j _ => f 56 _ (by decide)⟩) (by rw [hL]; exact h3) ?_ h5 (zRb_e h6 hL) ?_
  · by_cases z : zHas b (7 * p + i)
    · exact Or.inl (s1 _ (by omega) z)
    · exact Or.inr (s2 _ (by omega) z)
  · refine zMb_sub h4 (List.Sublist.refl _) e50 fun q bk hq hr => ?_
    obtain ⟨r, r1, r2⟩ := hr
    have q1 := hq.1
    have q2 := hq.2.1
    refine s1 _ (by omega) (zHas_L.2 (Or.inr (Or.inr ?_)))
    have r3 : r.1 ∈ (zLC a).map (fun r => r.1) := List.mem_map.2 ⟨r, r1, rfl⟩
    rw [h3.1] at r3
    obtain ⟨r', r4, r5⟩ := List.mem_map.1 r3
    have := zkey_i h1.1 (h3.2.1 r' r4) hq (r5.trans r2)
    exact ⟨r', r4, by rw [this.1]; omega⟩
  · exact zS1_sub h7 (fun j _ => f 55 j (by decide)) (fun q hq z => s1 q hq ((hh q).1 z)) (fun r hr => by rw [hL] at hr; exact hr)
