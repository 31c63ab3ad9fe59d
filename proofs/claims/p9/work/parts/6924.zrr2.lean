/-! Both receivers side by side: the life, what can be, a version more. -/
def zSq (a b : wm) (s : Nat) (q : Int) : Prop := ∀ k : Int, 0 ≤ k → k < 24 → zBat a s k = zsl b q k
theorem zRR_nil {a a1 b b1 : wm} (h : zRR a b) (fa : zfr (fun k i j => (k = 22 ∧ j = 3) ∨ (k = 19 ∧ j = 5)) a a1) (ha : a1.1 22 0 3 = 0) {e : Nat → Nat → Nat → Prop} (fb : zfr e b b1) (he : ∀ k j, e k 0 j → k = 34) (hb : b1.1 34 0 30 = 0) : zR0 a1 b1 := by
  have f : ∀ k j, k ≠ 34 → b1.1 k 0 j = b.1 k 0 j := fun k j hk => (fb k 0 j (fun z => hk (he k j z))).1
  have la : zLC a1 = [] := by unfold zLC zCu0; rw [ha]; rfl
  have lb : zLR b1 = [] := by unfold zLR zRu; rw [hb]; rfl
  refine zR0_rw h.1 (fun t _ => (fa 26 t 7 (by omega)).1) (fun p _ => f 50 p (by decide)) (fun t ht => zVa_fr fa ⟨by omega, by omega⟩ (fun k j h1 h2 => by omega) (fun i hi => ⟨by omega, fun j => by omega⟩)) (fun p hp => zVb_fr fb (fun k j h1 h2 h3 z => by have := he k j z; omega)) (by rw [la, lb]; exact zRw2_0) (fun q bk hq r hr => by rw [la] at hr; exact absurd hr List.not_mem_nil) (zCe_0 ha) (zRb_0 hb) ?_
  exact zS1_sub h.1.2.2.2.2.2.2.1 (fun j _ => f 55 j (by decide)) (fun q _ _ => f 54 q (by decide)) (fun r hr => by rw [lb] at hr; exact absurd hr List.not_mem_nil)
theorem zRR_le {a b b1 : wm} (h : zRR a b) (hf : zfr zeS b b1) (hu : zUf b b1 56) : zRR a b1 := zR0_us h.1 hf hu
theorem zst_life {a a1 b b1 : wm} {s : Nat} {q : Int} (h : zRR a b) (hl : a.1 19 0 5 = b.1 34 0 21) (e0 : zBat a s 0 = zsl b q 0) (ha : zNlf a a1 (zBat a s 0)) (hb : zLf9 b b1 q) : zRR a1 b1 ∧ a1.1 19 0 5 = b1.1 34 0 21 := by
  obtain ⟨fa, ha⟩ := ha
  rw [e0, hl] at ha
  rcases ha with ⟨h1, h2, h3⟩ | ⟨h1, rfl⟩
  · rcases hb with ⟨g1, -⟩ | ⟨g1, md, g2, g3, g4, g5, g6⟩
    · omega
    · have r0 := zRR_nil h fa h3 g2 (fun k j z => by omega) g4
      refine ⟨zR0_us r0 g5 g6, ?_⟩
      rw [h2, (g5 34 0 21 (by unfold zeS; omega)).1, g3]
  · rcases hb with ⟨g1, rfl⟩ | ⟨g1, -⟩
    · exact ⟨h, hl⟩
    · omega
/-- can it be -/
theorem zst_can {a b : wm} {s : Nat} {q : Int} (h : zNm2 (zcn0 a) (b.1 50 0)) (hs : zSq a b s q) (h0 : 0 ≤ zsl b q 1) : zCb a s ↔ zCbR b q := by
  unfold zCb zCbR
  rw [hs 1 (by decide) (by decide), hs 2 (by decide) (by decide), hs 3 (by decide) (by decide), hs 4 (by decide) (by decide), hs 5 (by decide) (by decide), hs 6 (by decide) (by decide), hs 7 (by decide) (by decide)]
  constructor
  · rintro ⟨h1, h2, h3, h4, h5, h6, h7⟩
    refine ⟨h1, h2, h3, h4, h5, h6, ?_⟩
    have z := (zNm2_le h (f := (zsl b q 1).toNat) (by omega) h2).1 h7
    rw [show (4 * zsl b q 1).toNat = 4 * (zsl b q 1).toNat by omega]
    exact z
  · rintro ⟨h1, h2, h3, h4, h5, h6, h7⟩
    refine ⟨h1, h2, h3, h4, h5, h6, ?_⟩
    rw [show (4 * zsl b q 1).toNat = 4 * (zsl b q 1).toNat by omega] at h7
    exact (zNm2_le h (f := (zsl b q 1).toNat) (by omega) h2).2 h7
/-- items renamed -/
theorem zRw2_m {la : List (Int × Int × Int64)} {lb : List (Int × Int × Int × Int64)} {kn kn' : Nat → Int} {g : Int → Int} (h : zRw2 la lb kn) (h1 : ∀ r, r ∈ lb → zqk kn' (g r.1) r.2.1 ∧ zkey kn' (g r.1) r.2.1 = zkey kn r.1 r.2.1) (h2 : ∀ q' bk, zqk kn' q' bk → (∃ q, zqk kn q bk ∧ zkey kn' q' bk = zkey kn q bk ∧ ∀ r, r ∈ lb → (g r.1 = q' ↔ r.1 = q)) ∨ ((∀ r, r ∈ lb → g r.1 ≠ q') ∧ ∀ r, r ∈ la → r.1 ≠ zkey kn' q' bk)) : zRw2 la (lb.map (fun r => (g r.1, r.2))) kn' := by
  obtain ⟨a1, a2, a3⟩ := h
  refine ⟨?_, fun r hr => ?_, fun q' bk hq x => ?_⟩
  · rw [a1, List.map_map]
    exact List.map_congr_left fun r hr => (h1 r hr).2.symm
  · obtain ⟨r0, r1, rfl⟩ := List.mem_map.1 hr
    exact (h1 r0 r1).1
  · rcases h2 q' bk hq with ⟨q, q1, q2, q3⟩ | ⟨n1, n2⟩
    · have e : zrb q' bk (lb.map (fun r => (g r.1, r.2))) = zrb q bk lb := by
        unfold zrb
        rw [← zfil_m (f := fun r : Int × Int × Int × Int64 => (g r.1, r.2)) (k := fun r => decide (r.1 = q' ∧ r.2.1 = bk)), List.map_map]
        have e2 : lb.filter (fun r => decide ((g r.1, r.2).1 = q' ∧ (g r.1, r.2).2.1 = bk)) = lb.filter (fun r => decide (r.1 = q ∧ r.2.1 = bk)) := List.filter_congr fun r hr => by
          have := q3 r hr
          by_cases z : r.1 = q ∧ r.2.1 = bk
          · rw [decide_eq_true z]; exact decide_eq_true ⟨this.2 z.1, z.2⟩
          · rw [decide_eq_false z]; exact decide_eq_false (fun y => z ⟨this.1 y.1, y.2⟩)
        rw [e2]
        exact List.map_congr_left fun r hr => rfl
      rw [e, q2]
      exact a3 q bk q1 x
    · have e : zrb q' bk (lb.map (fun r => (g r.1, r.2))) = [] := by
        unfold zrb
        rw [List.filter_eq_nil_iff.2 fun r hr z => ?_]
        · rfl
        · obtain ⟨r0, r1, rfl⟩ := List.mem_map.1 hr
          have z9 : g r0.1 = q' ∧ r0.2.1 = bk := of_decide_eq_true z
          exact n1 r0 r1 z9.1
      have e2 : zcb (zkey kn' q' bk) la = [] := by
        unfold zcb
        rw [List.filter_eq_nil_iff.2 fun r hr z => n2 r hr (of_decide_eq_true z)]
        rfl
      rw [e, e2]
def zgn (f a : Int) (q : Int) : Int := if 28 * f + 7 ≤ q ∧ q ≤ 7 * a + 6 then q - 7 else q
theorem zrn_g {f a : Int} : zrn f a = fun r => (zgn f a r.1, r.2) := by
  funext r
  unfold zrn zgn
  split
  · rfl
  · rfl
theorem zHv_n1 {k : Nat} {d : Int} {m0 m : wm} {f a : Int} (h : zHv k 1 d m0 m f a) (hf : 0 ≤ f) (ha : 4 * f ≤ a) (p i : Nat) (hi : i < 1) : (4 * f.toNat ≤ p → p < a.toNat → m.1 k 0 (1 * p + i) = m0.1 k 0 (1 * (p + 1) + i)) ∧ (p = a.toNat → m.1 k 0 (1 * p + i) = d) ∧ (p < 4 * f.toNat ∨ a.toNat < p → m.1 k 0 (1 * p + i) = m0.1 k 0 (1 * p + i)) := by
  have z := h ((1 * p + i : Nat) : Int) (by omega)
  rw [Int.toNat_natCast] at z
  obtain ⟨z1, z2, z3⟩ := z
  refine ⟨fun h1 h2 => ?_, fun h1 => z2 (by omega) (by omega), fun h1 => z3 (by omega)⟩
  rw [z1 (by omega) (by omega), show (((1 * p + i : Nat) : Int) + 1).toNat = 1 * (p + 1) + i by omega]
theorem zHv_n7 {k : Nat} {d : Int} {m0 m : wm} {f a : Int} (h : zHv k 7 d m0 m f a) (hf : 0 ≤ f) (ha : 4 * f ≤ a) (p i : Nat) (hi : i < 7) : (4 * f.toNat ≤ p → p < a.toNat → m.1 k 0 (7 * p + i) = m0.1 k 0 (7 * (p + 1) + i)) ∧ (p = a.toNat → m.1 k 0 (7 * p + i) = d) ∧ (p < 4 * f.toNat ∨ a.toNat < p → m.1 k 0 (7 * p + i) = m0.1 k 0 (7 * p + i)) := by
  have z := h ((7 * p + i : Nat) : Int) (by omega)
  rw [Int.toNat_natCast] at z
  obtain ⟨z1, z2, z3⟩ := z
  refine ⟨fun h1 h2 => ?_, fun h1 => z2 (by omega) (by omega), fun h1 => z3 (by omega)⟩
  rw [z1 (by omega) (by omega), show (((7 * p + i : Nat) : Int) + 7).toNat = 7 * (p + 1) + i by omega]
theorem zHv_n14 {k : Nat} {d : Int} {m0 m : wm} {f a : Int} (h : zHv k 14 d m0 m f a) (hf : 0 ≤ f) (ha : 4 * f ≤ a) (p i : Nat) (hi : i < 14) : (4 * f.toNat ≤ p → p < a.toNat → m.1 k 0 (14 * p + i) = m0.1 k 0 (14 * (p + 1) + i)) ∧ (p = a.toNat → m.1 k 0 (14 * p + i) = d) ∧ (p < 4 * f.toNat ∨ a.toNat < p → m.1 k 0 (14 * p + i) = m0.1 k 0 (14 * p + i)) := by
  have z := h ((14 * p + i : Nat) : Int) (by omega)
  rw [Int.toNat_natCast] at z
  obtain ⟨z1, z2, z3⟩ := z
  refine ⟨fun h1 h2 => ?_, fun h1 => z2 (by omega) (by omega), fun h1 => z3 (by omega)⟩
  rw [z1 (by omega) (by omega), show (((14 * p + i : Nat) : Int) + 14).toNat = 14 * (p + 1) + i by omega]
def zsrc (f a : Int) (p : Nat) : Nat := if 4 * f.toNat ≤ p ∧ p < a.toNat then p + 1 else p
theorem zHr_v {b b1 : wm} {f x a : Int} (h : zHr b b1 f x a) (hf : 0 ≤ f ∧ f ≤ 1) (ha : 4 * f ≤ a ∧ a ≤ 4 * f + 3) (p : Nat) (hp : p ≠ a.toNat) : zVb b b1 (zsrc f a p) p ∧ (∀ i, i < 7 → b1.1 54 0 (7 * p + i) = b.1 54 0 (7 * zsrc f a p + i)) ∧ b1.1 50 0 p = b.1 50 0 (zsrc f a p) := by
  obtain ⟨-, -, -, m, ⟨v50, v51, v52, v54, v57, v55, v56, -⟩, rfl⟩ := h
  have c1 : ∀ {k : Nat}, zHv k 1 0 b m f a → m.1 k 0 p = b.1 k 0 (zsrc f a p) := fun {k} hv => by
    have z := zHv_n1 hv hf.1 ha.1 p 0 (by decide)
    rw [show 1 * p + 0 = p by omega, show 1 * (p + 1) + 0 = p + 1 by omega] at z
    unfold zsrc
    split
    · exact z.1 (by omega) (by omega)
    · exact z.2.2 (by omega)
  have c7 : ∀ {k : Nat} {d : Int}, zHv k 7 d b m f a → ∀ i, i < 7 → m.1 k 0 (7 * p + i) = b.1 k 0 (7 * zsrc f a p + i) := fun {k d} hv i hi => by
    have z := zHv_n7 hv hf.1 ha.1 p i hi
    unfold zsrc
    split
    · exact z.1 (by omega) (by omega)
    · exact z.2.2 (by omega)
  have c14 : ∀ i, i < 14 → m.1 55 0 (14 * p + i) = b.1 55 0 (14 * zsrc f a p + i) := fun i hi => by
    have z := zHv_n14 v55 hf.1 ha.1 p i hi
    unfold zsrc
    split
    · exact z.1 (by omega) (by omega)
    · exact z.2.2 (by omega)
  have c56 : ∀ j, j < 728 → m.1 56 0 (728 * p + j) = b.1 56 0 (728 * zsrc f a p + j) := fun j hj => by
    have z := v56 ((728 * p + j : Nat) : Int) (by omega)
    rw [Int.toNat_natCast] at z
    unfold zsrc
    split
    · rw [z.1 (by omega) (by omega), show (((728 * p + j : Nat) : Int) + 728).toNat = 728 * (p + 1) + j by omega]
    · exact z.2 (by omega)
  refine ⟨⟨⟨c1 v51, c1 v52⟩, c14, c7 v57, fun i hi => Or.inl (c7 v54 i hi), c56⟩, c7 v54, ?_⟩
  rw [wuI_nj (fun z => hp z.2.2)]
  exact c1 v50
theorem zHr_a {b b1 : wm} {f x a : Int} (h : zHr b b1 f x a) (hf : 0 ≤ f ∧ f ≤ 1) (ha : 4 * f ≤ a ∧ a ≤ 4 * f + 3) : b1.1 50 0 a.toNat = x ∧ b1.1 51 0 a.toNat = 0 ∧ b1.1 52 0 a.toNat = 0 ∧ (∀ i, i < 7 → b1.1 54 0 (7 * a.toNat + i) = -1 ∧ b1.1 57 0 (7 * a.toNat + i) = 0) ∧ ∀ i, i < 14 → b1.1 55 0 (14 * a.toNat + i) = 0 := by
  obtain ⟨-, -, -, m, ⟨v50, v51, v52, v54, v57, v55, v56, -⟩, rfl⟩ := h
  have c1 : ∀ {k : Nat}, zHv k 1 0 b m f a → m.1 k 0 a.toNat = 0 := fun {k} hv => by
    have z := zHv_n1 hv hf.1 ha.1 a.toNat 0 (by decide)
    rw [show 1 * a.toNat + 0 = a.toNat by omega] at z
    exact z.2.1 rfl
  exact ⟨wuI_self, c1 v51, c1 v52, fun i hi => ⟨(zHv_n7 v54 hf.1 ha.1 _ i hi).2.1 rfl, (zHv_n7 v57 hf.1 ha.1 _ i hi).2.1 rfl⟩, fun i hi => (zHv_n14 v55 hf.1 ha.1 _ i hi).2.1 rfl⟩
theorem zHr_L {b b1 : wm} {f x a : Int} (h : zHr b b1 f x a) : zLR b1 = ((zLR b).filter (zkp (4 * f) 7)).map (fun r => (zgn f a r.1, r.2)) := by
  obtain ⟨-, -, -, m, hv, rfl⟩ := h
  rw [← zrn_g]
  exact hv.2.2.2.2.2.2.2
theorem zHr_k {b b1 : wm} {f x a : Int} (h : zHr b b1 f x a) (hf : 0 ≤ f ∧ f ≤ 1) (ha : 4 * f ≤ a ∧ a ≤ 4 * f + 3) : zKs (b.1 50 0) (b1.1 50 0) f.toNat a.toNat x := fun p hp => by
  refine ⟨fun h1 h2 => ?_, fun h1 => by rw [h1]; exact (zHr_a h hf ha).1, fun h1 => ?_⟩
  · have z := (zHr_v h hf ha p (by omega)).2.2
    rw [z]; unfold zsrc; rw [if_pos ⟨h1, h2⟩]
  · have z := (zHr_v h hf ha p (by omega)).2.2
    rw [z]; unfold zsrc; rw [if_neg (by omega)]
/-- where an item's rows go -/
theorem zgn_i {f a q : Int} (hf : 0 ≤ f ∧ f ≤ 1) (ha : 4 * f ≤ a ∧ a ≤ 4 * f + 3) (hq : 0 ≤ q ∧ q < 56) (hk : ¬ (7 * (4 * f) ≤ q ∧ q < 7 * (4 * f) + 7)) : 0 ≤ zgn f a q ∧ zgn f a q < 56 ∧ (zgn f a q / 7).toNat ≠ a.toNat ∧ zgn f a q / 28 = q / 28 ∧ zgn f a q % 7 = q % 7 ∧ (q / 7).toNat = zsrc f a (zgn f a q / 7).toNat := by
  unfold zgn zsrc
  split
  · refine ⟨by omega, by omega, by omega, by omega, by omega, ?_⟩
    rw [if_pos (by omega)]; omega
  · refine ⟨by omega, by omega, by omega, rfl, rfl, ?_⟩
    rw [if_neg (by omega)]
