/-! Both receivers side by side: a complete item looked at. -/
/-- the bytes of a complete item -/
theorem zst_by {a b : wm} {u p i : Nat} (h : zR0 a b) (hp : zPr a b u p) (hi : i < 7) (hc : zCpx a u i) (hh : i = 0 ∨ a.1 29 u i ≠ 1) (h104 : a.1 1 (101 + 7 * u + i) 1 ≤ 104) : b.1 54 0 (7 * p + i) = a.1 1 (101 + 7 * u + i) 1 ∧ 0 ≤ a.1 1 (101 + 7 * u + i) 1 ∧ ∀ j : Nat, (j : Int) < a.1 1 (101 + 7 * u + i) 1 → a.1 2 (101 + 7 * u + i) j = b.1 56 0 (104 * (7 * p + i) + j) := by
  obtain ⟨⟨v1, v3, v4, v5, v6⟩, -⟩ := h.2.1 u p hp
  have p2 := hp.2.1
  have w2 := h.2.2.2.2.2.2.1 (7 * p + i) (by omega) (zHas_L.2 (Or.inl (by rw [show 2 * (7 * p + i) = 14 * p + 2 * i by omega, ← v3 _ (by omega)]; exact hc.1)))
  have e := v5 i hi w2
  refine ⟨e.symm, by rw [e]; exact w2, fun j hj => v6 i j hi hh (by omega) ?_ (by rw [← e]; exact hj)⟩
  by_cases z : j / 64 = 0
  · rw [z]; exact hc.1
  · rw [show j / 64 = 1 by omega]
    exact hc.2.elim (fun y => y) (fun y => by omega)
theorem zst_f0 {a b : wm} {u p : Nat} (h : zR0 a b) (hp : zPr a b u p) (hc : zCpx a u 0) (h104 : a.1 1 (101 + 7 * u + 0) 1 ≤ 104) : b.1 54 0 (7 * p) = a.1 1 (101 + 7 * u + 0) 1 ∧ 0 ≤ a.1 1 (101 + 7 * u + 0) 1 ∧ ∀ x : Int, 0 ≤ x → x < a.1 1 (101 + 7 * u + 0) 1 → zby b (p : Int) x = zBat a (101 + 7 * u + 0) x := by
  obtain ⟨e1, e2, e3⟩ := zst_by h hp (i := 0) (by decide) hc (Or.inl rfl) h104
  rw [show 7 * p + 0 = 7 * p from rfl] at e1 e3
  refine ⟨e1, e2, fun x h0 hx => ?_⟩
  unfold zby zBat
  rw [if_pos ⟨h0, hx⟩, e3 x.toNat (by omega), show (728 * (p : Int) + x).toNat = 104 * (7 * p) + x.toNat by omega]
theorem zat_99 {b : Int → Int} {S n : Int} (h : ∀ j : Nat, (j : Int) < n → zMj b S j) : ∀ j : Nat, (j : Int) ≤ n → zat b j ≤ 3 + 16 * (j : Int) := by
  intro j
  induction j with
  | zero => intro _; show (3 : Int) ≤ _; omega
  | succ j ih =>
    intro hj
    have z := ih (by omega)
    have y := (h j (by omega)).2.1
    show zat b j + 10 + b (zat b j) ≤ _
    omega
theorem zMan_S {b : Int → Int} {S v : Int} (h : zMan S v b) : S ≤ 104 := by
  obtain ⟨h1, h2, h3, h4, h5⟩ := h
  by_cases e : 0 ≤ b 2
  · have := zat_99 h4 (b 2).toNat (by omega)
    omega
  · rw [show (b 2).toNat = 0 by omega] at h5
    have h6 : (3 : Int) = S := h5
    omega
theorem zst_ms {a b : wm} {u p : Nat} (h : zR0 a b) (hp : zPr a b u p) (hc : zCpx a u 0) : zMs a u ↔ zMsR b (p : Int) := by
  have key : a.1 1 (101 + 7 * u + 0) 1 ≤ 104 → (zMs a u ↔ zMsR b (p : Int)) := fun h104 => by
    obtain ⟨e1, e2, e3⟩ := zst_f0 h hp hc h104
    unfold zMs zMsR
    rw [show (7 * (p : Int)).toNat = 7 * p by omega, e1, Int.toNat_natCast, ← hp.2.2.2.1]
    exact zMan_i e3
  constructor
  · exact fun z => (key (zMan_S z)).1 z
  · intro z
    have z2 := zMan_S z
    rw [show (7 * (p : Int)).toNat = 7 * p by omega] at z2
    obtain ⟨⟨v1, v3, v4, v5, v6⟩, -⟩ := h.2.1 u p hp
    have p2 := hp.2.1
    have w2 := h.2.2.2.2.2.2.1 (7 * p) (by omega) (zHas_L.2 (Or.inl (by rw [show 2 * (7 * p) = 14 * p + 2 * 0 by omega, ← v3 _ (by omega)]; exact hc.1)))
    exact (key (by rw [v5 0 (by decide) w2]; exact z2)).2 z
/-- what a good manifest tells, on both sides -/
theorem zst_tld {a : wm} {u : Nat} (hv : zVc a u) (hg : a.1 26 u 10 = 1) {f : Int → Int} (g : ∀ x : Int, 0 ≤ x → x < a.1 1 (101 + 7 * u + 0) 1 → f x = zBat a (101 + 7 * u + 0) x) {i : Nat} (h1 : 1 ≤ i) (h2 : (i : Int) ≤ a.1 26 u 9) : a.1 32 u (i - 1) = f (zat f (i - 1) + 1 + f (zat f (i - 1))) ∧ a.2.1 33 u (i - 1) = zen (fun k : Nat => f (zat f i - 8 + (k : Int))) 8 := by
  obtain ⟨c1, c2, c3⟩ := hv
  obtain ⟨w1, w2, w3, w4⟩ := c2 hg
  have ht := w4 (i - 1) (by omega)
  unfold zMs at w2
  obtain ⟨m1, m2, m3, m4, m5⟩ := w2
  have hj : ∀ k : Nat, k < i → zMj (zBat a (101 + 7 * u + 0)) (a.1 1 (101 + 7 * u + 0) 1) k := fun k hk => m4 k (by omega)
  have z1 := zat_b g (i - 1) (fun k hk => hj k (by omega))
  have z2 := hj (i - 1) (by omega)
  unfold zMj at z2
  obtain ⟨y1, y2, y3, y4, -⟩ := z2
  unfold zTm at ht
  obtain ⟨t1, t2, t3, t4⟩ := ht
  have z3 : f (zat (zBat a (101 + 7 * u + 0)) (i - 1)) = zBat a (101 + 7 * u + 0) (zat (zBat a (101 + 7 * u + 0)) (i - 1)) := g _ (by omega) (by omega)
  constructor
  · rw [z1.1, z3, g _ (by omega) (by omega)]
    exact t3
  · rw [t4]
    refine zen_c fun k hk => ?_
    show zBat a (101 + 7 * u + 0) (zat (zBat a (101 + 7 * u + 0)) (i - 1) + 2 + zBat a (101 + 7 * u + 0) (zat (zBat a (101 + 7 * u + 0)) (i - 1)) + (k : Int)) = f (zat f i - 8 + (k : Int))
    have z4 : zat f i = zat (zBat a (101 + 7 * u + 0)) (i - 1) + 10 + zBat a (101 + 7 * u + 0) (zat (zBat a (101 + 7 * u + 0)) (i - 1)) := by
      have : zat f (i - 1 + 1) = zat f (i - 1) + 10 + f (zat f (i - 1)) := rfl
      rw [show i - 1 + 1 = i by omega, z1.1, z3] at this
      exact this
    rw [z4, ← g _ (by omega) (by omega)]
    congr 1
    omega
theorem zst_told {a b : wm} {u p : Nat} (h : zR0 a b) (hp : zPr a b u p) (hg : a.1 26 u 10 = 1) {i : Nat} (h1 : 1 ≤ i) (h2 : (i : Int) ≤ a.1 26 u 9) : a.1 32 u (i - 1) = zSt b (p : Int) (i : Int) ∧ a.2.1 33 u (i - 1) = zHt b (p : Int) (i : Int) := by
  have hv := (h.2.1 u p hp).2
  obtain ⟨w1, w2, -⟩ := hv.2.1 hg
  have z := zst_tld hv hg (zst_f0 h hp w1 (zMan_S w2)).2.2 h1 h2
  unfold zSt zHt
  rw [show ((i : Int) - 1).toNat = i - 1 by omega, Int.toNat_natCast]
  exact z
/-- an item forgotten on both sides -/
theorem zst_fo {a a1 b b1 : wm} {u p i : Nat} {x : Int} (h : zRR a b) (hp : zPr a b u p) (hi : i < 7) (hx : x = ((p / 4 : Nat) : Int)) (hg : i = 0 → a.1 26 u 10 = 0) (hF : zFo a a1 u i x) (F : zfr (zEi u i) a a1) (hB : zFgR b b1 (7 * (p : Int) + (i : Int))) : zRR a1 b1 ∧ zPr a1 b1 u p := by
  obtain ⟨⟨⟨v1, v2⟩, v3, v4, v5, v6⟩, c1, c2, c3⟩ := h.1.2.1 u p hp
  have p1 := hp.1
  have p2 := hp.2.1
  obtain ⟨⟨l1, l2, l3, l4⟩, l5, l6⟩ := hF
  obtain ⟨fb, ⟨b57, b54, b55⟩, bL⟩ := hB
  have n7 : ∀ t, a1.1 26 t 7 = a.1 26 t 7 := fun t => (F 26 t 7 (by unfold zEi; omega)).1
  have n29 : ∀ j, j ≠ i → a1.1 29 u j = a.1 29 u j := fun j hj => (F 29 u j (by unfold zEi; omega)).1
  have n28 : ∀ j, j / 2 ≠ i → a1.1 28 u j = a.1 28 u j := fun j hj => (F 28 u j (by unfold zEi; omega)).1
  have n1 : ∀ k, k < 7 → k ≠ i → a1.1 1 (101 + 7 * u + k) 1 = a.1 1 (101 + 7 * u + k) 1 := fun k _ hk => (F 1 _ 1 (by unfold zEi; omega)).1
  have n2 : ∀ t j, a1.1 2 t j = a.1 2 t j := fun t j => (F 2 t j (by unfold zEi; omega)).1
  have n30 : ∀ j, a1.1 30 u j = a.1 30 u j ∧ a1.1 31 u j = a.1 31 u j ∧ a1.1 32 u j = a.1 32 u j ∧ a1.2.1 33 u j = a.2.1 33 u j := fun j => ⟨(F 30 u j (by unfold zEi; omega)).1, (F 31 u j (by unfold zEi; omega)).1, (F 32 u j (by unfold zEi; omega)).1, (F 33 u j (by unfold zEi; omega)).2.1⟩
  have e50 : ∀ k j, k = 50 ∨ k = 51 ∨ k = 52 ∨ k = 56 → b1.1 k 0 j = b.1 k 0 j := fun k j hk => (fb k 0 j (by unfold zeF; omega)).1
  have t57 : ∀ j : Nat, b1.1 57 0 j = if j = 7 * p + i then 0 else b.1 57 0 j := fun j => by
    have := b57 (j : Int) (by omega)
    rw [Int.toNat_natCast] at this
    rw [this]
    by_cases e : j = 7 * p + i
    · rw [if_pos e, if_pos (by omega)]
    · rw [if_neg e, if_neg (by omega)]
  have t54 : ∀ j : Nat, b1.1 54 0 j = if j = 7 * p + i then -1 else b.1 54 0 j := fun j => by
    have := b54 (j : Int) (by omega)
    rw [Int.toNat_natCast] at this
    rw [this]
    by_cases e : j = 7 * p + i
    · rw [if_pos e, if_pos (by omega)]
    · rw [if_neg e, if_neg (by omega)]
  have t55 : ∀ j : Nat, b1.1 55 0 j = if j / 2 = 7 * p + i then 0 else b.1 55 0 j := fun j => by
    have := b55 (j : Int) (by omega)
    rw [Int.toNat_natCast] at this
    rw [this]
    by_cases e : j / 2 = 7 * p + i
    · rw [if_pos e, if_pos (by omega)]
    · rw [if_neg e, if_neg (by omega)]
  -- good and files
  have hgf : a1.1 26 u 10 = b1.1 51 0 p ∧ a1.1 26 u 9 = b1.1 52 0 p ∧ a1.1 26 u 10 = a.1 26 u 10 ∧ a1.1 26 u 9 = a.1 26 u 9 := by
    by_cases e : i = 0
    · have g0 := hg e
      have g1 : a.1 26 u 9 = 0 := by rcases c1 with z | z; (rw [g0] at z; omega); exact z.2
      obtain ⟨z1, z2⟩ := l5 e
      refine ⟨by rw [z2, e50 51 p (by omega), ← v1, g0], by rw [z1, e50 52 p (by omega), ← v2, g1], by rw [z2, g0], by rw [z1, g1]⟩
    · have z1 := (F 26 u 10 (by unfold zEi; omega)).1
      have z2 := (F 26 u 9 (by unfold zEi; omega)).1
      exact ⟨by rw [z1, e50 51 p (by omega), v1], by rw [z2, e50 52 p (by omega), v2], z1, z2⟩
  have lS : (zLC a1).Sublist (zLC a) := by rw [l6]; exact List.filter_sublist
  have hN := h.1.1
  have hRw : zRw2 (zLC a1) (zLR b1) (b.1 50 0) := by
    rw [l6, bL]
    refine zRw2_c h.1.2.2.1 (kb := fun q' b' => decide (¬ (7 * (p : Int) + (i : Int) ≤ q' ∧ q' ≤ 7 * (p : Int) + (i : Int) ∧ ((-1 : Int) < 0 ∨ b' = -1)))) rfl fun q' b' hq => ?_
    rw [decide_eq_true_iff, hx, hp.2.2.2.1]
    have hq2 := hq
    obtain ⟨q1, q2, q3, q4, q5⟩ := hq
    constructor
    · rintro hk ⟨z1, z2, -⟩
      rw [show q' = 7 * (p : Int) + (i : Int) by omega, zkey_p hi] at hk
      omega
    · intro hz
      apply Classical.byContradiction
      intro hk
      have e := zkey_i hN.1 hq2 (zqk_p (b := b) (p := p) (i := i) (bk := zkey (b.1 50 0) q' b' - (16 * (2 * b.1 50 0 p + ((p / 4 : Nat) : Int)) + 2 * (i : Int))) p2 hi (by omega) hp.2.2.2.2) (by rw [zkey_p hi]; omega)
      exact hz ⟨by omega, by omega, Or.inl (by omega)⟩
  have hno : ∀ r, r ∈ zLR b1 → r.1 ≠ 7 * (p : Int) + (i : Int) := fun r hr e => by
    rw [bL] at hr
    have z : ¬ (7 * (p : Int) + (i : Int) ≤ r.1 ∧ r.1 ≤ 7 * (p : Int) + (i : Int) ∧ ((-1 : Int) < 0 ∨ r.2.1 = -1)) := of_decide_eq_true (List.mem_filter.1 hr).2
    exact z ⟨by omega, by omega, Or.inl (by omega)⟩
  have hnh : ∀ q', zHas b1 q' → q' ≠ 7 * p + i ∧ zHas b q' := fun q' hh => by
    have e : q' ≠ 7 * p + i := fun e => by
      rcases zHas_L.1 hh with z | z | ⟨r, r1, r2⟩
      · rw [t55, if_pos (by omega)] at z; omega
      · rw [t55, if_pos (by omega)] at z; omega
      · exact hno r r1 (by omega)
    refine ⟨e, zHas_L.2 ?_⟩
    rcases zHas_L.1 hh with z | z | ⟨r, r1, r2⟩
    · rw [t55, if_neg (by omega)] at z; exact Or.inl z
    · rw [t55, if_neg (by omega)] at z; exact Or.inr (Or.inl z)
    · rw [bL] at r1; exact Or.inr (Or.inr ⟨r, (List.mem_filter.1 r1).1, r2⟩)
  refine ⟨⟨zR0_up h.1 (fun t _ => n7 t) (fun p _ => e50 50 p (by omega)) hp ⟨⟨⟨hgf.1, hgf.2.1⟩, fun j hj => ?_, fun k hk => ?_, fun k hk h0 => ?_, fun k j hk hh hj hs hl => ?_⟩, by rw [hgf.2.2.1, hgf.2.2.2]; exact c1, fun z => ?_, fun k hk z => ?_⟩ (fun t ht hne => zVa_fr F ⟨by unfold zEi; omega, by unfold zEi; omega⟩ (fun k j k1 k2 => by unfold zEi; omega) (fun i hi => ⟨by unfold zEi; omega, fun j => by unfold zEi; omega⟩)) (fun p' hp' hne => ⟨⟨e50 51 _ (by omega), e50 52 _ (by omega)⟩, fun j hj => by rw [t55, if_neg (by omega)], fun k hk => by rw [t57, if_neg (by omega)], fun k hk => Or.inl (by rw [t54, if_neg (by omega)]), fun j hj => e50 56 _ (by omega)⟩) hRw (zMb_sub h.1.2.2.2.1 lS (fun p _ => e50 50 p (by omega)) (fun q' bk hq hr => ?_)) (zCe_f h.1.2.2.2.2.1 l6) (zRb_f h.1.2.2.2.2.2.1 bL) (fun q' hq hh => ?_), fun q' hq hh => ?_⟩, hp.1, hp.2.1, hp.2.2.1, by rw [n7, e50 50 p (by omega)]; exact hp.2.2.2.1, by rw [e50 50 p (by omega)]; exact hp.2.2.2.2⟩
  · by_cases e : j / 2 = i
    · rw [t55, if_pos (by omega)]
      by_cases e2 : j % 2 = 0
      · rw [show j = 2 * i by omega]; exact l3
      · rw [show j = 2 * i + 1 by omega]; exact l4
    · rw [t55, if_neg (by omega), n28 j e]; exact v3 j hj
  · by_cases e : k = i
    · rw [e, l2, t57, if_pos rfl]
    · rw [n29 k e, t57, if_neg (by omega)]; exact v4 k hk
  · by_cases e : k = i
    · rw [e, t54, if_pos rfl] at h0; omega
    · rw [t54, if_neg (by omega)] at h0 ⊢
      rw [n1 k hk e]; exact v5 k hk h0
  · by_cases e : k = i
    · rw [e, t54, if_pos rfl] at hl; omega
    · rw [t54, if_neg (by omega)] at hl
      rw [n29 k e] at hh
      rw [n28 _ (by omega)] at hs
      rw [n2, e50 56 _ (by omega)]
      exact v6 k j hk hh hj hs hl
  · rw [hgf.2.2.1] at z
    have hi0 : i ≠ 0 := fun e => by rw [hg e] at z; omega
    obtain ⟨w1, w2, w3, w4⟩ := c2 z
    have e0 : zBat a1 (101 + 7 * u + 0) = zBat a (101 + 7 * u + 0) := by
      funext x
      unfold zBat
      rw [n1 0 (by decide) (fun y => hi0 y.symm), n2]
    refine ⟨?_, ?_, by rw [hgf.2.2.2, e0]; exact w3, fun j hj => ?_⟩
    · unfold zCpx at w1 ⊢
      rw [n28 _ (by omega), n28 _ (by omega), n1 0 (by decide) (fun y => hi0 y.symm)]; exact w1
    · unfold zMs at w2 ⊢
      rw [n1 0 (by decide) (fun y => hi0 y.symm), n7, e0]; exact w2
    · rw [hgf.2.2.2] at hj
      rw [e0]; exact zTm_e n30 (w4 j hj)
  · by_cases e : k = i
    · rw [e, l2] at z; omega
    · rw [n29 k e] at z
      obtain ⟨w1, w2, w3, w4, w5⟩ := c3 k hk z
      refine ⟨w1, by rw [hgf.2.2.2]; exact w2, by rw [hgf.2.2.1]; exact w3, ?_, by rw [n1 k hk e, (n30 (k - 1)).2.2.1]; exact w5⟩
      unfold zCpx at w4 ⊢
      rw [n28 _ (by omega), n28 _ (by omega), n1 k hk e]; exact w4
  · obtain ⟨r, r1, r2⟩ := hr
    rw [t54, if_neg ?_]
    intro e
    have q1 := hq.1
    rw [l6] at r1
    have z : r.1 < _ ∨ _ < r.1 := of_decide_eq_true (List.mem_filter.1 r1).2
    rw [r2, show q' = 7 * (p : Int) + (i : Int) by omega, zkey_p hi, hx, hp.2.2.2.1] at z
    have := hq.2.2.1
    have := hq.2.2.2.1
    omega
  · obtain ⟨e, hb⟩ := hnh q' hh
    rw [t54, if_neg e]; exact h.1.2.2.2.2.2.2.1 q' hq hb
  · rw [t54]
    by_cases e : q' = 7 * p + i
    · rw [if_pos e]
    · rw [if_neg e]
      refine h.2 q' hq (fun y => hh (zHas_L.2 ?_))
      rcases zHas_L.1 y with z | z | ⟨r, r1, r2⟩
      · exact Or.inl (by rw [t55, if_neg (by omega)]; exact z)
      · exact Or.inr (Or.inl (by rw [t55, if_neg (by omega)]; exact z))
      · exact Or.inr (Or.inr ⟨r, by rw [bL]; exact List.mem_filter.2 ⟨r1, decide_eq_true (by omega)⟩, r2⟩)
/-- a file held on both sides -/
theorem zst_ho {a a1 b b1 : wm} {u p i : Nat} (h : zRR a b) (hp : zPr a b u p) (hi : i < 7) (h1 : 1 ≤ i) (h2 : (i : Int) ≤ a.1 26 u 9) (hg : a.1 26 u 10 = 1) (hc : zCpx a u i) (hs : a.1 1 (101 + 7 * u + i) 1 = a.1 32 u (i - 1)) (ha : a1.1 29 u i = 1) (F : zfr (fun k a b => k = 29 ∧ a = u ∧ b = i) a a1) (hB : b1 = wuI b 57 0 (7 * (p : Int) + (i : Int)).toNat 1) : zRR a1 b1 ∧ zPr a1 b1 u p := by
  obtain ⟨⟨⟨v1, v2⟩, v3, v4, v5, v6⟩, c1, c2, c3⟩ := h.1.2.1 u p hp
  have p2 := hp.2.1
  have n : ∀ k t j, k ≠ 29 → a1.1 k t j = a.1 k t j := fun k t j hk => (F k t j (by omega)).1
  have n33 : ∀ j, a1.2.1 33 u j = a.2.1 33 u j := fun j => (F 33 u j (by omega)).2.1
  have n29 : ∀ j, j ≠ i → a1.1 29 u j = a.1 29 u j := fun j hj => (F 29 u j (by omega)).1
  have e : ∀ k j, k ≠ 57 → b1.1 k 0 j = b.1 k 0 j := fun k j hk => by
    rw [hB]; exact wuI_o hk
  have e57 : ∀ j, b1.1 57 0 j = if j = 7 * p + i then 1 else b.1 57 0 j := fun j => by
    rw [hB, show (7 * (p : Int) + (i : Int)).toNat = 7 * p + i by omega]; exact wuI_e j
  have lA : zLC a1 = zLC a := zLC_fr F (fun k j k1 k2 => by omega)
  have lB : zLR b1 = zLR b := by rw [hB]; rfl
  have hh : ∀ q, zHas b1 q ↔ zHas b q := fun q => by rw [zHas_L, zHas_L, lB, e 55 _ (by decide), e 55 _ (by decide)]
  have eC : ∀ k, zCpx a1 u k ↔ zCpx a u k := fun k => by unfold zCpx; rw [n 28 u _ (by decide), n 28 u _ (by decide), n 1 _ _ (by decide)]
  have e0 : zBat a1 (101 + 7 * u + 0) = zBat a (101 + 7 * u + 0) := by
    funext x
    unfold zBat
    rw [n 1 _ _ (by decide), n 2 _ _ (by decide)]
  refine ⟨⟨zR0_up h.1 (fun t _ => n 26 t 7 (by decide)) (fun p _ => e 50 p (by decide)) hp ⟨⟨⟨by rw [n 26 _ _ (by decide), e 51 _ (by decide)]; exact v1, by rw [n 26 _ _ (by decide), e 52 _ (by decide)]; exact v2⟩, fun j hj => by rw [n 28 _ _ (by decide), e 55 _ (by decide)]; exact v3 j hj, fun k hk => ?_, fun k hk h0 => ?_, fun k j hk hh2 hj hs2 hl => ?_⟩, by rw [n 26 _ _ (by decide), n 26 _ _ (by decide)]; exact c1, fun z => ?_, fun k hk z => ?_⟩ (fun t ht hne => zVa_fr F ⟨by omega, by omega⟩ (fun k j k1 k2 => by omega) (fun i hi => ⟨by omega, fun j => by omega⟩)) (fun p' hp' hne => ⟨⟨e 51 _ (by decide), e 52 _ (by decide)⟩, fun j hj => e 55 _ (by decide), fun k hk => by rw [e57, if_neg (by omega)], fun k hk => Or.inl (e 54 _ (by decide)), fun j hj => e 56 _ (by decide)⟩) (by rw [lA, lB]; exact h.1.2.2.1) (zMb_sub h.1.2.2.2.1 (by rw [lA]; exact List.Sublist.refl _) (fun p _ => e 50 p (by decide)) (fun q bk _ _ => e 54 _ (by decide))) (zCe_fr h.1.2.2.2.2.1 F (fun k j k1 k2 => by omega)) (zRb_e h.1.2.2.2.2.2.1 lB) (fun q hq z => by rw [e 54 _ (by decide)]; exact h.1.2.2.2.2.2.2.1 q hq ((hh q).1 z)), fun q hq z => by rw [e 54 _ (by decide)]; exact h.2 q hq (fun y => z ((hh q).2 y))⟩, hp.1, hp.2.1, hp.2.2.1, by rw [n 26 _ _ (by decide), e 50 p (by decide)]; exact hp.2.2.2.1, by rw [e 50 p (by decide)]; exact hp.2.2.2.2⟩
  · by_cases y : k = i
    · rw [y, ha, e57, if_pos rfl]
    · rw [n29 k y, e57, if_neg (by omega)]; exact v4 k hk
  · rw [e 54 _ (by decide)] at h0 ⊢
    rw [n 1 _ _ (by decide)]; exact v5 k hk h0
  · rw [e 54 _ (by decide)] at hl
    rw [n 28 _ _ (by decide)] at hs2
    rw [n 2 _ _ (by decide), e 56 _ (by decide)]
    refine v6 k j hk ?_ hj hs2 hl
    rcases hh2 with y | y
    · exact Or.inl y
    · by_cases y2 : k = i
      · rw [y2, ha] at y; omega
      · rw [n29 k y2] at y; exact Or.inr y
  · rw [n 26 _ _ (by decide)] at z
    obtain ⟨w1, w2, w3, w4⟩ := c2 z
    refine ⟨(eC 0).2 w1, ?_, by rw [n 26 _ _ (by decide), e0]; exact w3, fun j hj => ?_⟩
    · unfold zMs at w2 ⊢
      rw [n 1 _ _ (by decide), n 26 _ _ (by decide), e0]; exact w2
    · rw [n 26 _ _ (by decide)] at hj
      rw [e0]; exact zTm_e (fun j => ⟨n 30 u j (by decide), n 31 u j (by decide), n 32 u j (by decide), n33 j⟩) (w4 j hj)
  · by_cases y : k = i
    · rw [y]; exact ⟨h1, by rw [n 26 _ _ (by decide)]; exact h2, by rw [n 26 _ _ (by decide)]; exact hg, (eC i).2 hc, by rw [n 1 _ _ (by decide), n 32 _ _ (by decide)]; exact hs⟩
    · rw [n29 k y] at z
      obtain ⟨w1, w2, w3, w4, w5⟩ := c3 k hk z
      exact ⟨w1, by rw [n 26 _ _ (by decide)]; exact w2, by rw [n 26 _ _ (by decide)]; exact w3, (eC k).2 w4, by rw [n 1 _ _ (by decide), n 32 _ _ (by decide)]; exact w5⟩
/-- told sizes are small -/
theorem zst_t96 {a b : wm} {u p : Nat} (h : zR0 a b) (hp : zPr a b u p) (hg : a.1 26 u 10 = 1) {i : Nat} (h1 : 1 ≤ i) (h2 : (i : Int) ≤ a.1 26 u 9) : a.1 32 u (i - 1) ≤ 96 := by
  obtain ⟨-, c1, c2, c3⟩ := h.2.1 u p hp
  obtain ⟨w1, w2, w3, w4⟩ := c2 hg
  have ht := (w4 (i - 1) (by omega)).2.2.1
  have z := (w2.2.2.2.1 (i - 1) (by omega)).2.2.2.1
  rw [ht]; exact z
/-- the file told of, on both sides -/
theorem zst_rt {a b : wm} {u p i : Nat} (h : zR0 a b) (hp : zPr a b u p) (hi : i < 7) (h1 : 1 ≤ i) (hg : a.1 26 u 10 = 1) (hc : zCpx a u i) (hh : a.1 29 u i ≠ 1) : zFr a u i ↔ zRtR b (p : Int) (i : Int) := by
  obtain ⟨⟨⟨v1, v2⟩, v3, v4, v5, v6⟩, -⟩ := h.2.1 u p hp
  have p2 := hp.2.1
  have w2 := h.2.2.2.2.2.2.1 (7 * p + i) (by omega) (zHas_L.2 (Or.inl (by rw [show 2 * (7 * p + i) = 14 * p + 2 * i by omega, ← v3 _ (by omega)]; exact hc.1)))
  have e := v5 i hi w2
  have key : (i : Int) ≤ a.1 26 u 9 → a.1 1 (101 + 7 * u + i) 1 ≤ 96 → zhh (zBR a (101 + 7 * u + i)).2 (a.1 1 (101 + 7 * u + i) 1).toNat = zhh (fun k : Nat => b.1 56 0 (104 * (7 * (p : Int) + (i : Int)) + (k : Int)).toNat) (b.1 54 0 (7 * p + i)).toNat := fun _ h96 => by
    rw [← e]
    refine zhh_c fun k hk => ?_
    have z := (zst_by h hp hi hc (Or.inr hh) (by omega)).2.2 k (by omega)
    rw [show (zBR a (101 + 7 * u + i)).2 k = a.1 2 (101 + 7 * u + i) k from zcut_2 (by omega), z, show (104 * (7 * (p : Int) + (i : Int)) + (k : Int)).toNat = 104 * (7 * p + i) + k by omega]
  unfold zFr zRt zRtR
  rw [show (7 * (p : Int) + (i : Int)).toNat = 7 * p + i by omega, Int.toNat_natCast, ← v2]
  constructor
  · rintro ⟨-, z2, z3, z4⟩
    obtain ⟨t1, t2⟩ := zst_told h hp hg h1 z2
    have t3 := zst_t96 h hp hg h1 z2
    rw [← t1, ← t2]
    refine ⟨z2, by rw [← e]; exact z3, ?_⟩
    rw [← z4]; exact (key z2 (by omega)).symm
  · rintro ⟨z2, z3, z4⟩
    obtain ⟨t1, t2⟩ := zst_told h hp hg h1 z2
    have t3 := zst_t96 h hp hg h1 z2
    rw [← t1, ← e] at z3
    rw [← t2] at z4
    refine ⟨h1, z2, z3, ?_⟩
    rw [← z4]; exact key z2 (by omega)
/-- a complete file looked at, on both sides -/
theorem zst_lf {a a1 b b1 : wm} {u p i : Nat} {x : Int} (h : zRR a b) (hp : zPr a b u p) (hi : i < 7) (h1 : 1 ≤ i) (hx : x = ((p / 4 : Nat) : Int)) (hg : a.1 26 u 10 = 1) (hc : zCpx a u i) (hh : a.1 29 u i ≠ 1) (ha : zLf a a1 u i x) (hb : zCo1 b b1 (p : Int) (i : Int)) : zRR a1 b1 ∧ zPr a1 b1 u p := by
  obtain ⟨⟨⟨v1, v2⟩, v3, v4, v5, v6⟩, -⟩ := h.1.2.1 u p hp
  have e57 := v4 i hi
  have hR := zst_rt h.1 hp hi h1 hg hc hh
  rcases hb with ⟨z, -⟩ | ⟨z1, z2, z3⟩
  · rcases z with z | z
    · exact absurd ((zst_cp h.1 hp hi).1 hc) z
    · rw [show (7 * (p : Int) + (i : Int)).toNat = 7 * p + i by omega, ← e57] at z; exact absurd z hh
  · obtain ⟨F, ha⟩ := ha
    rcases z3 with ⟨z3, z4⟩ | ⟨z3, z4⟩
    · rcases ha with ⟨y1, y2, y3⟩ | ⟨y1, y2⟩
      · exact zst_ho h hp hi h1 y1.2.1 hg hc y1.2.2.1 y2 y3 z4
      · exact absurd (hR.2 z3) y1
    · rcases ha with ⟨y1, y2, y3⟩ | ⟨y1, y2⟩
      · exact absurd (hR.1 y1) z3
      · exact zst_fo h hp hi hx (fun e => by omega) y2 F z4
/-- the loop over the other items -/
theorem zst_lk {m9 b9 : wm} {u p : Nat} {x : Int} (h : zRR m9 b9) (hp : zPr m9 b9 u p) (hx : x = ((p / 4 : Nat) : Int)) (hg : m9.1 26 u 10 = 1) (hh : ∀ i, i < 7 → m9.1 29 u i ≠ 1) : ∀ (n : Nat) (am bm : wm), n ≤ 6 → zLkx m9 u x n am → zLkR b9 (p : Int) n bm → zRR am bm ∧ zPr am bm u p ∧ am.1 26 u 10 = 1 ∧ ∀ i, n < i → i < 7 → am.1 29 u i ≠ 1 := by
  intro n
  induction n with
  | zero => intro am bm _ h1 h2; rw [h1, h2]; exact ⟨h, hp, hg, fun i _ hi => hh i hi⟩
  | succ n ih =>
    rintro am bm hn ⟨a0, h1, h2⟩ ⟨b0, h3, h4⟩
    obtain ⟨r1, r2, r3, r4⟩ := ih a0 b0 (by omega) h1 h3
    have v2 := (r1.1.2.1 u p r2).1.1.2
    rw [show ((n : Int) + 1) = (((n + 1 : Nat)) : Int) by omega] at h4
    have fin : zLf a0 am u (n + 1) x → am.1 26 u 10 = 1 ∧ ∀ i, n + 1 < i → i < 7 → am.1 29 u i ≠ 1 := fun z => ⟨by rw [(z.1 26 u 10 (by unfold zEi; omega)).1]; exact r3, fun i hi h7 => by rw [(z.1 29 u i (by unfold zEi; omega)).1]; exact r4 i (by omega) h7⟩
    rcases h2 with ⟨c1, c2⟩ | ⟨c1, rfl⟩
    · rcases h4 with ⟨d1, d2⟩ | ⟨d1, d2⟩
      · rw [Int.toNat_natCast, ← v2] at d1
        obtain ⟨F, y⟩ := c2
        rcases y with ⟨y1, -⟩ | ⟨y1, y2⟩
        · exact absurd y1.2.1 (by omega)
        · have z := zst_fo r1 r2 (by omega) hx (fun e => by omega) y2 F d2
          exact ⟨z.1, z.2, fin ⟨F, Or.inr ⟨y1, y2⟩⟩⟩
      · rw [Int.toNat_natCast, ← v2] at d1
        have hc : zCpx a0 u (n + 1) := c1.elim (fun z => by omega) (fun z => z)
        have z := zst_lf r1 r2 (by omega) (by omega) hx r3 hc (r4 (n + 1) (by omega) (by omega)) c2 d2
        exact ⟨z.1, z.2, fin c2⟩
    · have nC : ¬ zCpx am u (n + 1) := fun z => c1 (Or.inr z)
      have nF : ¬ am.1 26 u 9 < (((n + 1 : Nat)) : Int) := fun z => c1 (Or.inl z)
      rcases h4 with ⟨d1, -⟩ | ⟨-, d2⟩
      · rw [Int.toNat_natCast, ← v2] at d1; exact absurd d1 nF
      · rcases d2 with ⟨-, rfl⟩ | ⟨d3, -⟩
        · exact ⟨r1, r2, r3, fun i hi h7 => r4 i (by omega) h7⟩
        · exact absurd ((zst_cp r1.1 r2 (by omega)).2 d3) nC
/-- a good manifest noted on both sides -/
theorem zst_mf {a m9 b : wm} {u p : Nat} (h : zRR a b) (hp : zPr a b u p) (hg : a.1 26 u 10 = 0) (hc : zCpx a u 0) (hm : zMs a u) (F : zfr (zEmx u) a m9) (hM : zMt a m9 u) : zRR m9 (wuI (wuI b 51 0 (p : Int).toNat 1) 52 0 (p : Int).toNat (zby b (p : Int) 2)) ∧ zPr m9 (wuI (wuI b 51 0 (p : Int).toNat 1) 52 0 (p : Int).toNat (zby b (p : Int) 2)) u p ∧ m9.1 26 u 10 = 1 ∧ ∀ i, i < 7 → m9.1 29 u i ≠ 1 := by
  obtain ⟨⟨⟨v1, v2⟩, v3, v4, v5, v6⟩, c1, c2, c3⟩ := h.1.2.1 u p hp
  have p2 := hp.2.1
  obtain ⟨t1, t2, t3⟩ := hM
  have h3 : 3 ≤ a.1 1 (101 + 7 * u + 0) 1 := hm.1
  have eb := (zst_f0 h.1 hp hc (zMan_S hm)).2.2 2 (by omega) (by omega)
  rw [Int.toNat_natCast]
  have e : ∀ k j, k ≠ 51 → k ≠ 52 → (wuI (wuI b 51 0 p 1) 52 0 p (zby b (p : Int) 2)).1 k 0 j = b.1 k 0 j := fun k j k1 k2 => (wuI_o k2).trans (wuI_o k1)
  have e1 : ∀ j, (wuI (wuI b 51 0 p 1) 52 0 p (zby b (p : Int) 2)).1 51 0 j = if j = p then 1 else b.1 51 0 j := fun j => (wuI_o (by decide)).trans (wuI_e j)
  have e2 : ∀ j, (wuI (wuI b 51 0 p 1) 52 0 p (zby b (p : Int) 2)).1 52 0 j = if j = p then zby b (p : Int) 2 else b.1 52 0 j := fun j => by
    rw [wuI_e j, wuI_o (by decide)]
  have n7 : ∀ t, m9.1 26 t 7 = a.1 26 t 7 := fun t => (F 26 t 7 (by unfold zEmx; omega)).1
  have n : ∀ k t j, k < 26 ∨ k = 28 ∨ k = 29 → m9.1 k t j = a.1 k t j := fun k t j hk => (F k t j (by unfold zEmx; omega)).1
  have lA : zLC m9 = zLC a := zLC_fr F (fun k j k1 k2 => by unfold zEmx; omega)
  have lB : zLR (wuI (wuI b 51 0 p 1) 52 0 p (zby b (p : Int) 2)) = zLR b := rfl
  have hh : ∀ q, zHas (wuI (wuI b 51 0 p 1) 52 0 p (zby b (p : Int) 2)) q ↔ zHas b q := fun q => by rw [zHas_L, zHas_L, lB, e 55 _ (by decide) (by decide), e 55 _ (by decide) (by decide)]
  have eC : ∀ k, zCpx m9 u k ↔ zCpx a u k := fun k => by unfold zCpx; rw [n 28 u _ (by omega), n 28 u _ (by omega), n 1 _ _ (by omega)]
  have e0 : zBat m9 (101 + 7 * u + 0) = zBat a (101 + 7 * u + 0) := by
    funext x
    unfold zBat
    rw [n 1 _ _ (by omega), n 2 _ _ (by omega)]
  have nh : ∀ i, i < 7 → a.1 29 u i ≠ 1 := fun i hi z => by have := (c3 i hi z).2.2.1; omega
  refine ⟨⟨zR0_up h.1 (fun t _ => n7 t) (fun p _ => e 50 p (by decide) (by decide)) hp ⟨⟨⟨by rw [t2, e1, if_pos rfl], by rw [t1, e2, if_pos rfl, eb]⟩, fun j hj => by rw [n 28 _ _ (by omega), e 55 _ (by decide) (by decide)]; exact v3 j hj, fun k hk => by rw [n 29 _ _ (by omega), e 57 _ (by decide) (by decide)]; exact v4 k hk, fun k hk h0 => ?_, fun k j hk hh2 hj hs2 hl => ?_⟩, Or.inl t2, fun z => ?_, fun k hk z => ?_⟩ (fun t ht hne => zVa_fr F ⟨by unfold zEmx; omega, by unfold zEmx; omega⟩ (fun k j k1 k2 => by unfold zEmx; omega) (fun i hi => ⟨by unfold zEmx; omega, fun j => by unfold zEmx; omega⟩)) (fun p' hp' hne => ⟨⟨by rw [e1, if_neg hne], by rw [e2, if_neg hne]⟩, fun j hj => e 55 _ (by decide) (by decide), fun k hk => e 57 _ (by decide) (by decide), fun k hk => Or.inl (e 54 _ (by decide) (by decide)), fun j hj => e 56 _ (by decide) (by decide)⟩) (by rw [lA, lB]; exact h.1.2.2.1) (zMb_sub h.1.2.2.2.1 (by rw [lA]; exact List.Sublist.refl _) (fun p _ => e 50 p (by decide) (by decide)) (fun q bk _ _ => e 54 _ (by decide) (by decide))) (zCe_fr h.1.2.2.2.2.1 F (fun k j k1 k2 => by unfold zEmx; omega)) (zRb_e h.1.2.2.2.2.2.1 lB) (fun q hq z => by rw [e 54 _ (by decide) (by decide)]; exact h.1.2.2.2.2.2.2.1 q hq ((hh q).1 z)), fun q hq z => by rw [e 54 _ (by decide) (by decide)]; exact h.2 q hq (fun y => z ((hh q).2 y))⟩, ⟨hp.1, hp.2.1, hp.2.2.1, by rw [n7, e 50 p (by decide) (by decide)]; exact hp.2.2.2.1, by rw [e 50 p (by decide) (by decide)]; exact hp.2.2.2.2⟩, t2, fun i hi => by rw [n 29 _ _ (by omega)]; exact nh i hi⟩
  · rw [e 54 _ (by decide) (by decide)] at h0 ⊢
    rw [n 1 _ _ (by omega)]; exact v5 k hk h0
  · rw [e 54 _ (by decide) (by decide)] at hl
    rw [n 28 _ _ (by omega)] at hs2
    rw [n 29 _ _ (by omega)] at hh2
    rw [n 2 _ _ (by omega), e 56 _ (by decide) (by decide)]
    exact v6 k j hk hh2 hj hs2 hl
  · refine ⟨(eC 0).2 hc, ?_, by rw [t1, e0], fun j hj => ?_⟩
    · unfold zMs at hm ⊢
      rw [n 1 _ _ (by omega), n7, e0]; exact hm
    · rw [t1] at hj
      rw [e0]; exact t3 j hj
  · rw [n 29 _ _ (by omega)] at z
    exact absurd z (nh k hk)
/-- the last block of an item, on both sides -/
theorem zst_look {a a1 b b1 : wm} {u p : Nat} {x y : Int} (h : zRR a b) (hp : zPr a b u p) (hx : x = ((p / 4 : Nat) : Int)) (hy : 0 ≤ y ∧ y ≤ 6) (hc : zCpx a u y.toNat) (hh : a.1 29 u y.toNat ≠ 1) (hg : y = 0 → a.1 26 u 10 = 0) (ha : zLa a a1 u y x) (hb : zCo b b1 (p : Int) y) : zRR a1 b1 := by
  obtain ⟨⟨⟨v1, v2⟩, -⟩, -⟩ := h.1.2.1 u p hp
  rcases ha with ⟨a2, a3, rfl⟩ | ⟨a2, a3, a4⟩ | ⟨rfl, a3, m9, a4, a5, a6, a7⟩ | ⟨rfl, a3, m9, a4, a5, a6⟩
  · rcases hb with ⟨b2, b3, rfl⟩ | ⟨b2, b3, b4⟩ | ⟨b2, -⟩ | ⟨b2, -⟩
    · exact h
    · rw [Int.toNat_natCast, ← v1] at b3; omega
    · omega
    · omega
  · rcases hb with ⟨b2, b3, rfl⟩ | ⟨b2, b3, b4⟩ | ⟨b2, -⟩ | ⟨b2, -⟩
    · rw [Int.toNat_natCast, ← v1] at b3; omega
    · rw [show y = ((y.toNat : Nat) : Int) by omega] at b4
      exact (zst_lf h hp (by omega) (by omega) hx a3 hc hh a4 b4).1
    · omega
    · omega
  · have hms := zst_ms h.1 hp hc
    rcases hb with ⟨b2, -⟩ | ⟨b2, -⟩ | ⟨-, b3, b4⟩ | ⟨-, b3, -⟩
    · omega
    · omega
    · -- what was read of it is of no use
      have hr : zRR m9 b ∧ zPr m9 b u p := by
        have n : ∀ k t j, k < 26 ∨ k = 28 ∨ k = 29 → m9.1 k t j = a.1 k t j := fun k t j hk => (a4 k t j (by unfold zEmx; omega)).1
        have n26 : ∀ t j, m9.1 26 t j = a.1 26 t j := fun t j => by
          by_cases e : t = u
          · rw [e]; exact a5 j
          · exact (a4 26 t j (by unfold zEmx; omega)).1
        have lA : zLC m9 = zLC a := zLC_fr a4 (fun k j k1 k2 => by unfold zEmx; omega)
        obtain ⟨⟨w1, w3, w4, w5, w6⟩, c1, c2, c3⟩ := h.1.2.1 u p hp
        have g0 := hg rfl
        refine ⟨⟨zR0_up h.1 (fun t _ => n26 t 7) (fun p _ => rfl) hp ⟨⟨by rw [n26, n26]; exact w1, fun j hj => by rw [n 28 _ _ (by omega)]; exact w3 j hj, fun k hk => by rw [n 29 _ _ (by omega)]; exact w4 k hk, fun k hk h0 => by rw [n 1 _ _ (by omega)]; exact w5 k hk h0, fun k j hk hh2 hj hs2 hl => ?_⟩, by rw [n26, n26]; exact c1, fun z => ?_, fun k hk z => ?_⟩ (fun t ht hne => zVa_fr a4 ⟨by unfold zEmx; omega, by unfold zEmx; omega⟩ (fun k j k1 k2 => by unfold zEmx; omega) (fun i hi => ⟨by unfold zEmx; omega, fun j => by unfold zEmx; omega⟩)) (fun p' hp' hne => zVb_rf) (by rw [lA]; exact h.1.2.2.1) (zMb_sub h.1.2.2.2.1 (by rw [lA]; exact List.Sublist.refl _) (fun p _ => rfl) (fun q bk _ _ => rfl)) (zCe_fr h.1.2.2.2.2.1 a4 (fun k j k1 k2 => by unfold zEmx; omega)) h.1.2.2.2.2.2.1 h.1.2.2.2.2.2.2.1, h.2⟩, hp.1, hp.2.1, hp.2.2.1, by rw [n26]; exact hp.2.2.2.1, hp.2.2.2.2⟩
        · rw [n 28 _ _ (by omega)] at hs2
          rw [n 29 _ _ (by omega)] at hh2
          rw [n 2 _ _ (by omega)]
          exact w6 k j hk hh2 hj hs2 hl
        · rw [n26, g0] at z; omega
        · rw [n 29 _ _ (by omega)] at z
          have := (c3 k hk z).2.2.1
          omega
      rw [show 7 * (p : Int) = 7 * (p : Int) + ((0 : Nat) : Int) by omega] at b4
      exact (zst_fo hr.1 hr.2 (by decide) hx (fun _ => by rw [a5]; exact hg rfl) a6 a7 b4).1
    · exact absurd (hms.2 b3) a3
  · have hms := zst_ms h.1 hp hc
    rcases hb with ⟨b2, -⟩ | ⟨b2, -⟩ | ⟨-, b3, b4⟩ | ⟨-, b3, b4⟩
    · omega
    · omega
    · exact absurd (hms.1 a3) b3
    · obtain ⟨r1, r2, r3, r4⟩ := zst_mf h hp (hg rfl) hc a3 a4 a5
      exact (zst_lk r1 r2 hx r3 r4 6 a1 b1 (by decide) a6 b4).1
