/-! Both receivers side by side: a row kept, a block solved. -/
theorem zIn_K {m : wm} {K : Int} : zIn m K K = zKp m K := by
  funext j
  unfold zIn zKp
  by_cases e : m.1 23 0 j = K
  · rw [decide_eq_true e]; exact decide_eq_true (by omega)
  · rw [decide_eq_false e]; exact decide_eq_false (by omega)
theorem zct_C {m : wm} {K : Int} : zct (zKp m K) (zCu0 m) = (((zLC m).map (fun r => r.1)).filter (fun k => decide (k = K))).length := by
  rw [zct_L]
  unfold zLC
  rw [List.map_map, ← zfil_m (k := fun k : Int => decide (k = K)), List.length_map]
  rfl
theorem zct_R {m : wm} {q b : Int} : zct (zRp m q b) (zRu m) = ((zLR m).filter (fun r => decide (r.1 = q ∧ r.2.1 = b))).length := by
  rw [zct_L]
  unfold zLR
  rw [← zfil_m (k := fun r : Int × Int × Int × Int64 => decide (r.1 = q ∧ r.2.1 = b)), List.length_map]
  rfl
theorem zct_2 {a b : wm} {kn : Nat → Int} (hS : zSo kn) (h : zRw2 (zLC a) (zLR b) kn) {q bk : Int} (hq : zqk kn q bk) : zct (zKp a (zkey kn q bk)) (zCu0 a) = zct (zRp b q bk) (zRu b) := by
  rw [zct_C, zct_R, h.1, ← zfil_m (k := fun k : Int => decide (k = zkey kn q bk)), List.length_map]
  congr 1
  refine List.filter_congr fun r hr => ?_
  by_cases e : r.1 = q ∧ r.2.1 = bk
  · rw [decide_eq_true e]; exact decide_eq_true (by rw [e.1, e.2])
  · rw [decide_eq_false e]; exact decide_eq_false (fun z => e (zkey_i hS (h.2.1 r hr) hq z))
theorem zkV_e {a b : wm} {s : Nat} {q : Int} (hq : 0 ≤ q) (hs : zSq a b s q) : zkV a s = zTv b q := zen_c fun k hk => by
  have e := hs (8 + (k : Int)) (by omega) (by omega)
  show (zBR a s).2 (8 + k) = b.1 47 0 (24 * q.toNat + 8 + k)
  rw [zBR_b, show (((8 + k : Nat)) : Int) = 8 + (k : Int) by omega, e]
  unfold zsl
  rw [show (24 * q + (8 + (k : Int))).toNat = 24 * q.toNat + 8 + k by omega]
theorem zec_K {m : wm} (h : zCe m) (K : Int) : zec (zKp m K) (zCw m) (zCu0 m) := h.2 K
/-- what both have after the row was added -/
theorem zst_add {a am b b2 : wm} {Q bk M S : Int} {v : Int64} (h : zR0 a b) (hq : zqk (b.1 50 0) Q bk) (ha0 : 0 ≤ a.1 22 0 3) (hA : zAd a am (zkey (b.1 50 0) Q bk) M v) (hB : zRa b b2 Q bk M v S) (hM : 1 ≤ M ∧ M < ((2 ^ (zpc S bk).toNat : Nat) : Int)) (h0 : 0 ≤ S) (hS : b.1 54 0 Q.toNat = S ∨ b.1 54 0 Q.toNat = -1) : zRw2 (zLC am) (zLR b2) (b.1 50 0) ∧ (∀ q' bk', zqk (b.1 50 0) q' bk' → ∀ r, r ∈ zLC am → r.1 = zkey (b.1 50 0) q' bk' → r.2.1.toNat < 2 ^ (zpc (b2.1 54 0 q'.toNat) bk').toNat) ∧ zCe am ∧ zRb b2 ∧ zS1 b2 ∧ (zS2 b → zS2 b2) := by
  obtain ⟨hN, hV, hR, hMb, hC, hRb, hS1, hU⟩ := h
  have hq' := hq
  obtain ⟨q1, q2, q3, q4, q5⟩ := hq
  obtain ⟨f1, f2, f3, f4⟩ := hB
  have z8 := zpc_rg S bk
  have hp8 : 2 ^ (zpc S bk).toNat ≤ 2 ^ 8 := Nat.pow_le_pow_right (by decide) (by omega)
  have g54 : ∀ j : Nat, b2.1 54 0 j = if (j : Int) = Q then S else b.1 54 0 j := fun j => by
    have := f4 (j : Int) (by omega)
    rwa [Int.toNat_natCast] at this
  have g55 : ∀ j, b2.1 55 0 j = b.1 55 0 j := fun j => (f1 55 0 j (by unfold zeA; omega)).1
  -- rows of the block before
  have hold : ∀ r, r ∈ zLC a → r.1 = zkey (b.1 50 0) Q bk → r.2.1.toNat < 2 ^ (zpc S bk).toNat := fun r hr he => by
    have e1 := hMb Q bk hq' r hr he
    obtain ⟨r', r1, r2⟩ := zrow_k ⟨hN, hV, hR, hMb, hC, hRb, hS1, hU⟩ hr
    have e2 := zkey_i hN.1 (hR.2.1 r' r1) hq' (r2.trans he)
    have e3 := hS1 Q.toNat (by omega) (zHas_L.2 (Or.inr (Or.inr ⟨r', r1, by rw [e2.1]; omega⟩)))
    rw [show b.1 54 0 Q.toNat = S by omega] at e1
    exact e1
  refine ⟨by rw [f3]; exact zRw2_a hN.1 hR hq' ha0 hA, fun q' bk' hqk r hr he => ?_, hA.2.2.2.2.2.1, zRb_a hRb ⟨f1, f2, f3, f4⟩ (by omega), fun q hq hh => ?_, fun hS2 q hq hh => ?_⟩
  · have w := hqk
    obtain ⟨w1, w2, -⟩ := hqk
    obtain ⟨j, j1, rfl⟩ := List.mem_map.1 hr
    have j1' := List.mem_range.1 j1
    have he' : am.1 23 0 j = zkey (b.1 50 0) q' bk' := he
    by_cases e : q' = Q ∧ bk' = bk
    · rw [e.1, e.2] at he' ⊢
      rw [g54, if_pos (by omega)]
      refine hA.2.2.2.2.2.2 _ (by omega) (fun i hi hk => hold _ (zmem_j hi) hk) j j1' he'
    · have hne : zkey (b.1 50 0) q' bk' ≠ zkey (b.1 50 0) Q bk := fun z => e (zkey_i hN.1 w hq' z)
      obtain ⟨a1, a2, a3, a4, -⟩ := hA
      have u1 : zCu0 am = zCu0 a + 1 := by unfold zCu0; rw [a1]; omega
      have hj : j < zCu0 a := by
        apply Classical.byContradiction
        intro z
        rw [show j = zCu0 a by omega, a3] at he'
        exact hne he'.symm
      rw [a2 j hj] at he'
      have a5 := a4 j hj (by rw [he']; exact hne)
      show (am.1 24 0 j).toNat < _
      rw [a5.1]
      have e1 := hMb q' bk' w _ (zmem_j hj) he'
      rw [g54]
      by_cases e2 : ((q'.toNat : Nat) : Int) = Q
      · rw [if_pos e2]
        -- the other block of the same item
        obtain ⟨r', r1, r2⟩ := zrow_k ⟨hN, hV, hR, hMb, hC, hRb, hS1, hU⟩ (zmem_j hj)
        have e3 := zkey_i hN.1 (hR.2.1 r' r1) w (r2.trans he')
        have e4 := hS1 Q.toNat (by omega) (zHas_L.2 (Or.inr (Or.inr ⟨r', r1, by rw [e3.1]; omega⟩)))
        rw [show q'.toNat = Q.toNat by omega, show b.1 54 0 Q.toNat = S by omega] at e1
        exact e1
      · rw [if_neg e2]; exact e1
  · rw [g54]
    by_cases e : (q : Int) = Q
    · rw [if_pos e]; exact h0
    · rw [if_neg e]
      refine hS1 q hq (zHas_L.2 ?_)
      rcases zHas_L.1 hh with z | z | ⟨r, r1, r2⟩
      · exact Or.inl (by rw [← g55]; exact z)
      · exact Or.inr (Or.inl (by rw [← g55]; exact z))
      · rw [f3] at r1
        rcases List.mem_append.1 r1 with y | y
        · exact Or.inr (Or.inr ⟨r, y, r2⟩)
        · rw [List.mem_singleton.1 y] at r2; exact absurd r2.symm e
  · rw [g54]
    by_cases e : (q : Int) = Q
    · exact absurd (zHas_L.2 (Or.inr (Or.inr ⟨(Q, bk, M, v), by rw [f3]; exact List.mem_append.2 (Or.inr (List.mem_singleton.2 rfl)), e.symm⟩))) hh
    · rw [if_neg e]
      refine hS2 q hq (fun y => hh (zHas_L.2 ?_))
      rcases zHas_L.1 y with z | z | ⟨r, r1, r2⟩
      · exact Or.inl (by rw [g55]; exact z)
      · exact Or.inr (Or.inl (by rw [g55]; exact z))
      · exact Or.inr (Or.inr ⟨r, by rw [f3]; exact List.mem_append.2 (Or.inl r1), r2⟩)
/-- an item of a version changed on both sides, not held, no good manifest -/
theorem zst_kv {a a1 b b1 : wm} {u p I : Nat} {S : Int} (h : zR0 a b) (hp : zPr a b u p) (hI : I < 7) (F : zfr (zeK u I) a a1) (sz : a1.1 1 (101 + 7 * u + I) 1 = S) (h28 : ∀ j, j < 2 → a1.1 28 u (2 * I + j) = b1.1 55 0 (14 * p + (2 * I + j))) (e50 : ∀ k j, k = 50 ∨ k = 51 ∨ k = 52 ∨ k = 57 → b1.1 k 0 j = b.1 k 0 j) (e54 : ∀ j : Nat, b1.1 54 0 j = if j = 7 * p + I then S else b.1 54 0 j) (e55 : ∀ j, j < 112 → j / 2 ≠ 7 * p + I → b1.1 55 0 j = b.1 55 0 j) (e56 : ∀ j, j / 104 ≠ 7 * p + I → b1.1 56 0 j = b.1 56 0 j) (by2 : ∀ j, j < 104 → a1.1 28 u (2 * I + j / 64) = 1 → (j : Int) < S → a1.1 2 (101 + 7 * u + I) j = b1.1 56 0 (104 * (7 * p + I) + j)) (hh : a.1 29 u I ≠ 1) (hg : a.1 26 u 10 = 1 → I ≠ 0) (hr : zRw2 (zLC a1) (zLR b1) (b.1 50 0)) (hm : zMb a1 b1) (hc : zCe a1) (hb2 : zRb b1) (hs : zS1 b1) : zR0 a1 b1 := by
  obtain ⟨⟨⟨v1, v2⟩, v3, v4, v5, v6⟩, c1, c2, c3⟩ := h.2.1 u p hp
  have p1 := hp.1
  have p2 := hp.2.1
  have n26 : ∀ t j, a1.1 26 t j = a.1 26 t j := fun t j => (F 26 t j (by unfold zeK; omega)).1
  have n29 : ∀ t j, a1.1 29 t j = a.1 29 t j := fun t j => (F 29 t j (by unfold zeK; omega)).1
  have n28 : ∀ j, j / 2 ≠ I → a1.1 28 u j = a.1 28 u j := fun j hj => (F 28 u j (by unfold zeK; omega)).1
  have n1 : ∀ i, i < 7 → i ≠ I → a1.1 1 (101 + 7 * u + i) 1 = a.1 1 (101 + 7 * u + i) 1 := fun i _ hi => (F 1 _ 1 (by unfold zeK; omega)).1
  have n2 : ∀ i j, i < 7 → i ≠ I → a1.1 2 (101 + 7 * u + i) j = a.1 2 (101 + 7 * u + i) j := fun i j _ hi => (F 2 _ j (by unfold zeK; omega)).1
  have n30 : ∀ j, a1.1 30 u j = a.1 30 u j ∧ a1.1 31 u j = a.1 31 u j ∧ a1.1 32 u j = a.1 32 u j ∧ a1.2.1 33 u j = a.2.1 33 u j := fun j => ⟨(F 30 u j (by unfold zeK; omega)).1, (F 31 u j (by unfold zeK; omega)).1, (F 32 u j (by unfold zeK; omega)).1, (F 33 u j (by unfold zeK; omega)).2.1⟩
  have nC : ∀ i, i < 7 → i ≠ I → zCpx a u i → zCpx a1 u i := fun i h7 hi z => by
    unfold zCpx at z ⊢
    rw [n28 (2 * i) (by omega), n28 (2 * i + 1) (by omega), n1 i h7 hi]
    exact z
  refine zR0_up h (fun t _ => n26 t 7) (fun p _ => e50 50 p (Or.inl rfl)) hp ⟨⟨⟨by rw [n26, v1, e50 51 p (by omega)], by rw [n26, v2, e50 52 p (by omega)]⟩, fun j hj => ?_, fun i hi => by rw [n29, v4 i hi, e50 57 _ (by omega)], fun i hi h0 => ?_, fun i j hi hh2 hj hs2 hl => ?_⟩, by rw [n26, n26]; exact c1, fun z => ?_, fun i hi z => ?_⟩ (fun t ht hne => zVa_fr F ⟨by unfold zeK; omega, by unfold zeK; omega⟩ (fun k j k1 k2 => by unfold zeK; omega) (fun i hi => ⟨by unfold zeK; omega, fun j => by unfold zeK; omega⟩)) (fun p' hp' hne => ⟨⟨e50 51 _ (by omega), e50 52 _ (by omega)⟩, fun j hj => e55 _ (by omega) (by omega), fun i hi => e50 57 _ (by omega), fun i hi => Or.inl (by rw [e54, if_neg (by omega)]), fun j hj => e56 _ (by omega)⟩) hr hm hc hb2 hs
  · by_cases e : j / 2 = I
    · have := h28 (j % 2) (by omega)
      rwa [show 2 * I + j % 2 = j by omega] at this
    · rw [n28 j e, v3 j hj, e55 _ (by omega) (by omega)]
  · by_cases e : i = I
    · rw [e, sz, e54, if_pos rfl]
    · rw [e54, if_neg (by omega)] at h0 ⊢
      rw [n1 i hi e]; exact v5 i hi h0
  · by_cases e : i = I
    · subst e
      rw [e54, if_pos rfl] at hl
      exact by2 j hj hs2 hl
    · rw [e54, if_neg (by omega)] at hl
      rw [n28 _ (by omega)] at hs2
      rw [n29] at hh2
      rw [n2 i j hi e, v6 i j hi hh2 hj hs2 hl, e56 _ (by omega)]
  · rw [n26] at z
    have hI0 := hg z
    obtain ⟨w1, w2, w3, w4⟩ := c2 z
    have e0 : zBat a1 (101 + 7 * u + 0) = zBat a (101 + 7 * u + 0) := by
      funext x
      unfold zBat
      rw [n1 0 (by decide) (fun y => hI0 y.symm), n2 0 _ (by decide) (fun y => hI0 y.symm)]
    refine ⟨nC 0 (by decide) (fun y => hI0 y.symm) w1, ?_, by rw [n26, e0]; exact w3, fun j hj => ?_⟩
    · unfold zMs at w2 ⊢
      rw [n1 0 (by decide) (fun y => hI0 y.symm), n26, e0]; exact w2
    · rw [n26] at hj
      rw [e0]
      exact zTm_e n30 (w4 j hj)
  · rw [n29] at z
    have e : i ≠ I := fun e => hh (by rw [← e]; exact z)
    obtain ⟨w1, w2, w3, w4, w5⟩ := c3 i hi z
    exact ⟨w1, by rw [n26]; exact w2, by rw [n26]; exact w3, nC i hi e w4, by rw [n1 i hi e, (n30 (i - 1)).2.2.1]; exact w5⟩
/-- the packet, on both sides -/
def zCx (a b : wm) (s u p : Nat) (q : Int) : Prop := zPr a b u p ∧ zSq a b s q ∧ a.1 26 u 7 = 256 * zBat a s 2 + zBat a s 3 ∧ zBat a s 1 = ((p / 4 : Nat) : Int) ∧ (0 ≤ zsl b q 4 ∧ zsl b q 4 ≤ 6) ∧ (0 ≤ zsl b q 5 ∧ zsl b q 5 ≤ 1) ∧ (0 ≤ zsl b q 7 ∧ zsl b q 7 ≤ 104) ∧ (zsl b q 5 = 0 ∨ 64 < zsl b q 7) ∧ 0 ≤ zsl b q 6 ∧ 0 ≤ q
/-- its block isn't solved, its size is the one that is there -/
def zCy (b : wm) (p : Nat) (q : Int) : Prop := b.1 55 0 (2 * (7 * (p : Int) + zsl b q 4) + zsl b q 5).toNat ≠ 1 ∧ (b.1 54 0 (7 * (p : Int) + zsl b q 4).toNat = zsl b q 7 ∨ b.1 54 0 (7 * (p : Int) + zsl b q 4).toNat = -1)
theorem zcx_n {a b : wm} {s u p : Nat} {q : Int} (h : zR0 a b) (hx : zCx a b s u p q) (hy : zCy b p q) : ¬ zCpx a u (zsl b q 4).toNat ∧ a.1 29 u (zsl b q 4).toNat ≠ 1 ∧ (a.1 26 u 10 = 1 → (zsl b q 4).toNat ≠ 0) := by
  obtain ⟨hp, hs, hn, hx1, h4, h5, h7, h64, h6, h0⟩ := hx
  obtain ⟨⟨⟨v1, v2⟩, v3, v4, v5, v6⟩, c1, c2, c3⟩ := h.2.1 u p hp
  have p2 := hp.2.1
  obtain ⟨y1, y2⟩ := hy
  rw [show (2 * (7 * (p : Int) + zsl b q 4) + zsl b q 5).toNat = 14 * p + (2 * (zsl b q 4).toNat + (zsl b q 5).toNat) by omega, ← v3 _ (by omega)] at y1
  rw [show (7 * (p : Int) + zsl b q 4).toNat = 7 * p + (zsl b q 4).toNat by omega] at y2
  have hC : ¬ zCpx a u (zsl b q 4).toNat := by
    rintro ⟨z1, z2⟩
    have w := v3 (2 * (zsl b q 4).toNat) (by omega)
    have w2 := h.2.2.2.2.2.2.1 (7 * p + (zsl b q 4).toNat) (by omega) (zHas_L.2 (Or.inl (by rw [show 2 * (7 * p + (zsl b q 4).toNat) = 14 * p + 2 * (zsl b q 4).toNat by omega, ← w]; exact z1)))
    have w3 := v5 _ (by omega) w2
    rcases h64 with z | z
    · rw [z] at y1; exact y1 z1
    · have e1 : (zsl b q 5).toNat = 0 ∨ (zsl b q 5).toNat = 1 := by omega
      rcases e1 with e1 | e1
      · rw [e1] at y1; exact y1 z1
      · rw [e1] at y1
        rcases z2 with z2 | z2
        · exact y1 z2
        · omega
  refine ⟨hC, fun z => hC (c3 _ (by omega) z).2.2.2.1, fun z z2 => hC (by rw [z2]; exact (c2 z).1)⟩
theorem zcx_k {a b : wm} {s u p : Nat} {q : Int} (h : zR0 a b) (hx : zCx a b s u p q) : zqk (b.1 50 0) (7 * (p : Int) + zsl b q 4) (zsl b q 5) ∧ zkK a u (zBat a s 1) s = zkey (b.1 50 0) (7 * (p : Int) + zsl b q 4) (zsl b q 5) ∧ zkM a s = zTM b q (p : Int) (zsl b q 4) (zsl b q 5) ∧ zkV a s = zTv b q ∧ zkN a s = zpc (zsl b q 7) (zsl b q 5) ∧ zTn b q (zsl b q 5) = zpc (zsl b q 7) (zsl b q 5) ∧ 1 ≤ zTM b q (p : Int) (zsl b q 4) (zsl b q 5) ∧ zTM b q (p : Int) (zsl b q 4) (zsl b q 5) < ((2 ^ (zpc (zsl b q 7) (zsl b q 5)).toNat : Nat) : Int) := by
  obtain ⟨hp, hs, hn, hx1, h4, h5, h7, h64, h6, h0⟩ := hx
  obtain ⟨t1, t2, -⟩ := zst_tell h hp hs hn hx1 h4 h5
  obtain ⟨m1, m2⟩ := zst_mk hp hs hn
  have e : zkK a u (zBat a s 1) s = zWk a s := by unfold zkK zWk; rw [hn]
  have r := zpc_rg (zsl b q 7) (zsl b q 5)
  have mr := zmk_rg (v := b.1 50 0 (p : Int).toNat) (i := zsl b q 4) (b := zsl b q 5) (j := zsl b q 6) (n := zpc (zsl b q 7) (zsl b q 5)) h6 r
  exact ⟨t2, e.trans t1, m1, zkV_e h0 hs, m2, rfl, mr.1, mr.2⟩
/-- the row kept, the block not solved -/
theorem zst_k0 {a a1 b b2 : wm} {s u p : Nat} {q : Int} (h : zRR a b) (hx : zCx a b s u p q) (hy : zCy b p q) (ha0 : 0 ≤ a.1 22 0 3) (hL : zL0 a a1 s u) (hB : zRa b b2 (7 * (p : Int) + zsl b q 4) (zsl b q 5) (zTM b q (p : Int) (zsl b q 4) (zsl b q 5)) (zTv b q) (zsl b q 7)) : zRR a1 b2 ∧ zPr a1 b2 u p ∧ zct (zRp b2 (7 * (p : Int) + zsl b q 4) (zsl b q 5)) (zRu b2) < (zTn b q (zsl b q 5)).toNat := by
  obtain ⟨k1, k2, k3, k4, k5, k6, k7, k8⟩ := zcx_k h.1 hx
  obtain ⟨n1, n2, n3⟩ := zcx_n h.1 hx hy
  obtain ⟨⟨⟨hAd, hsz1⟩, hct, h2, h28⟩, hf⟩ := hL
  rw [k2, k3, k4] at hAd
  rw [k2, k5] at hct
  have hp := hx.1
  obtain ⟨-, hs, hn, hx1, h4, h5, h7, h64, h6, h0⟩ := hx
  rw [hs 4 (by decide) (by decide)] at hsz1 h2 hf
  rw [hs 7 (by decide) (by decide)] at hsz1
  have hA := zst_add h.1 k1 ha0 hAd hB ⟨k7, k8⟩ h7.1 hy.2
  obtain ⟨r1, r2, r3, r4, r5, r6⟩ := hA
  obtain ⟨f1, f2, f3, f4⟩ := hB
  have e50 : ∀ k j, k = 50 ∨ k = 51 ∨ k = 52 ∨ k = 57 ∨ k = 55 ∨ k = 56 → b2.1 k 0 j = b.1 k 0 j := fun k j hk => (f1 k 0 j (by unfold zeA; omega)).1
  have g54 : ∀ j : Nat, b2.1 54 0 j = if j = 7 * p + (zsl b q 4).toNat then zsl b q 7 else b.1 54 0 j := fun j => by
    have := f4 (j : Int) (by omega)
    rw [Int.toNat_natCast] at this
    rw [this]
    by_cases e : j = 7 * p + (zsl b q 4).toNat
    · rw [if_pos e, if_pos (by omega)]
    · rw [if_neg e, if_neg (by omega)]
  obtain ⟨⟨v1, v3, v4, v5, v6⟩, -⟩ := h.1.2.1 u p hp
  have p2 := hp.2.1
  have r0 : zR0 a1 b2 := zst_kv h.1 hp (I := (zsl b q 4).toNat) (by omega) hf hsz1 (fun j hj => by rw [h28, v3 _ (by omega), e50 55 _ (by omega)]) (fun k j hk => e50 k j (by omega)) g54 (fun j _ _ => e50 55 j (by omega)) (fun j _ => e50 56 j (by omega)) (fun j hj hs2 hl => by
    rw [h28] at hs2
    have w := v3 (2 * (zsl b q 4).toNat + j / 64) (by omega)
    have w2 := h.1.2.2.2.2.2.2.1 (7 * p + (zsl b q 4).toNat) (by omega) (zHas_L.2 (by
      by_cases e : j / 64 = 0
      · exact Or.inl (by rw [show 2 * (7 * p + (zsl b q 4).toNat) = 14 * p + (2 * (zsl b q 4).toNat + j / 64) by omega, ← w]; exact hs2)
      · exact Or.inr (Or.inl (by rw [show 2 * (7 * p + (zsl b q 4).toNat) + 1 = 14 * p + (2 * (zsl b q 4).toNat + j / 64) by omega, ← w]; exact hs2))))
    have y2 := hy.2
    rw [show (7 * (p : Int) + zsl b q 4).toNat = 7 * p + (zsl b q 4).toNat by omega] at y2
    rw [h2 j, v6 _ j (by omega) (Or.inr n2) hj hs2 (by omega), e50 56 _ (by omega)]) n2 n3 r1 (fun q' bk' hq r hr he => by
      have ek : b2.1 50 0 = b.1 50 0 := funext fun j => e50 50 j (by omega)
      rw [ek] at hq he
      exact r2 q' bk' hq r hr he) r3 r4 r5
  refine ⟨⟨r0, r6 h.2⟩, ⟨hp.1, hp.2.1, hp.2.2.1, by rw [(hf 26 u 7 (by unfold zeK; omega)).1, e50 50 p (by omega)]; exact hp.2.2.2.1, by rw [e50 50 p (by omega)]; exact hp.2.2.2.2⟩, ?_⟩
  rw [zIn_K, zct_2 h.1.1.1 r1 k1] at hct
  rw [k6]; omega
/-- the block's rows are as many as its pieces -/
theorem zct_n9 {m : wm} {K : Int} {n : Nat} (hE : zCe m) (hm : ∀ r, r ∈ zLC m → r.1 = K → r.2.1.toNat < 2 ^ n) : zct (zKp m K) (zCu0 m) ≤ n := by
  have z := zpg (P := zKp m K) (R := zCw m) (n := n) (u := zCu0 m) (B := fun _ => true) (zec_K hE K) (fun i hi hP => by
    obtain ⟨e1, -⟩ := zec_K hE K i hi hP
    obtain ⟨p, p1⟩ := zlw_e e1
    refine ⟨p, ?_, rfl, p1⟩
    apply Classical.byContradiction
    intro hp
    have h1 := hm _ (zmem_j hi) (of_decide_eq_true hP)
    have h2 : (zCw m i).1 < 2 ^ p := Nat.lt_of_lt_of_le h1 (Nat.pow_le_pow_right (by decide) (by omega))
    have h3 := Nat.testBit_lt_two_pow h2
    rw [p1.1] at h3
    exact Bool.noConfusion h3)
  rwa [zct_tt] at z
/-- the row kept, the block solved -/
theorem zst_k1 {a a1 b b2 b3 : wm} {s u p : Nat} {q : Int} (h : zRR a b) (hx : zCx a b s u p q) (hy : zCy b p q) (ha0 : 0 ≤ a.1 22 0 3) (hL : zL1 a a1 s u) (hB : zRa b b2 (7 * (p : Int) + zsl b q 4) (zsl b q 5) (zTM b q (p : Int) (zsl b q 4) (zsl b q 5)) (zTv b q) (zsl b q 7)) (hS : (((zct (zRp b2 (7 * (p : Int) + zsl b q 4) (zsl b q 5)) (zRu b2) : Nat) : Int) = zTn b q (zsl b q 5) ∧ zSv b2 b3 (7 * (p : Int) + zsl b q 4) (zsl b q 5) (zTn b q (zsl b q 5))) ∨ (((zct (zRp b2 (7 * (p : Int) + zsl b q 4) (zsl b q 5)) (zRu b2) : Nat) : Int) ≠ zTn b q (zsl b q 5) ∧ b2 = b3)) : zRR a1 b3 ∧ zPr a1 b3 u p := by
  obtain ⟨k1, k2, k3, k4, k5, k6, k7, k8⟩ := zcx_k h.1 hx
  obtain ⟨n1, n2, n3⟩ := zcx_n h.1 hx hy
  obtain ⟨⟨m, ⟨hAd, -⟩, hct, hPp, hLC, hsz1, h2, hs1, h28⟩, hf⟩ := hL
  rw [k2, k3, k4] at hAd
  rw [k2, k5] at hct
  rw [k2, k5] at hPp
  rw [k2] at hLC
  have hp := hx.1
  obtain ⟨-, hs, hn, hx1, h4, h5, h7, h64, h6, h0⟩ := hx
  rw [hs 4 (by decide) (by decide)] at hsz1 h2 hf hs1 h28 hPp
  rw [hs 7 (by decide) (by decide)] at hsz1 hPp
  rw [hs 5 (by decide) (by decide)] at hs1 h28 hPp
  have hA := zst_add h.1 k1 ha0 hAd hB ⟨k7, k8⟩ h7.1 hy.2
  obtain ⟨r1, r2, r3, r4, r5, r6⟩ := hA
  obtain ⟨f1, f2, f3, f4⟩ := hB
  have pr := zpc_rg (zsl b q 7) (zsl b q 5)
  have e50 : ∀ k j, k = 50 ∨ k = 51 ∨ k = 52 ∨ k = 57 ∨ k = 55 ∨ k = 56 → b2.1 k 0 j = b.1 k 0 j := fun k j hk => (f1 k 0 j (by unfold zeA; omega)).1
  have g54 : ∀ j : Nat, b2.1 54 0 j = if j = 7 * p + (zsl b q 4).toNat then zsl b q 7 else b.1 54 0 j := fun j => by
    have := f4 (j : Int) (by omega)
    rw [Int.toNat_natCast] at this
    rw [this]
    by_cases e : j = 7 * p + (zsl b q 4).toNat
    · rw [if_pos e, if_pos (by omega)]
    · rw [if_neg e, if_neg (by omega)]
  have p2 := hp.2.1
  have hmk : ∀ r, r ∈ zLC m → r.1 = zkey (b.1 50 0) (7 * (p : Int) + zsl b q 4) (zsl b q 5) → r.2.1.toNat < 2 ^ (zpc (zsl b q 7) (zsl b q 5)).toNat := fun r hr he => by
    have z := r2 _ _ k1 r hr he
    rw [g54, if_pos (by omega)] at z
    exact z
  have hle := zct_n9 r3 hmk
  rw [zIn_K] at hct
  have hcb := zct_2 h.1.1.1 r1 k1
  rcases hS with ⟨-, fv, ⟨mm, v, ⟨V, V1, V2, V3, V4⟩, e56⟩, L3, s55⟩ | ⟨hS, -⟩
  · have g50 : ∀ k j, k = 50 ∨ k = 51 ∨ k = 52 ∨ k = 57 ∨ k = 54 → b3.1 k 0 j = b2.1 k 0 j := fun k j hk => (fv k 0 j (by unfold zeV; omega)).1
    obtain ⟨⟨v1, v3, v4, v5, v6⟩, -⟩ := h.1.2.1 u p hp
    have t54 : ∀ j : Nat, b3.1 54 0 j = if j = 7 * p + (zsl b q 4).toNat then zsl b q 7 else b.1 54 0 j := fun j => by rw [g50 54 j (by omega), g54]
    have t55 : ∀ j : Nat, b3.1 55 0 j = if j = 14 * p + (2 * (zsl b q 4).toNat + (zsl b q 5).toNat) then 1 else b.1 55 0 j := fun j => by
      have := s55 (j : Int) (by omega)
      rw [Int.toNat_natCast] at this
      rw [this, e50 55 j (by omega)]
      by_cases e : j = 14 * p + (2 * (zsl b q 4).toNat + (zsl b q 5).toNat)
      · rw [if_pos e, if_pos (by omega)]
      · rw [if_neg e, if_neg (by omega)]
    have t56 : ∀ j : Nat, ((j : Int) < 104 * (7 * (p : Int) + zsl b q 4) + 64 * zsl b q 5 ∨ 104 * (7 * (p : Int) + zsl b q 4) + 64 * zsl b q 5 + 8 * zTn b q (zsl b q 5) ≤ (j : Int) ∨ 104 * (7 * (p : Int) + zsl b q 4) + 104 ≤ (j : Int)) → b3.1 56 0 j = b.1 56 0 j := fun j hj => by
      have := V4 (j : Int) (by omega) (by omega)
      rw [Int.toNat_natCast] at this
      rw [e56, this, e50 56 j (by omega)]
    have ek : b3.1 50 0 = b.1 50 0 := funext fun j => by rw [g50 50 j (by omega), e50 50 j (by omega)]
    have hRw : zRw2 (zLC a1) (zLR b3) (b.1 50 0) := by
      rw [hLC, L3]
      refine zRw2_c r1 (kb := fun q' b' => decide (¬ (7 * (p : Int) + zsl b q 4 ≤ q' ∧ q' ≤ 7 * (p : Int) + zsl b q 4 ∧ (zsl b q 5 < 0 ∨ b' = zsl b q 5)))) rfl fun q' b' hq => ?_
      rw [decide_eq_true_iff]
      constructor
      · rintro hk ⟨z1, z2, z3⟩
        rw [show q' = 7 * (p : Int) + zsl b q 4 by omega, show b' = zsl b q 5 by omega] at hk
        omega
      · intro hz
        apply Classical.byContradiction
        intro hk
        have e := zkey_i h.1.1.1 hq k1 (by omega)
        exact hz ⟨by omega, by omega, by omega⟩
    have hS1 : zS1 b3 := fun q' hq hh => by
      rw [t54]
      by_cases e : q' = 7 * p + (zsl b q 4).toNat
      · rw [if_pos e]; exact h7.1
      · rw [if_neg e]
        refine h.1.2.2.2.2.2.2.1 q' hq (zHas_L.2 ?_)
        rcases zHas_L.1 hh with z | z | ⟨r, y1, y2⟩
        · rw [t55, if_neg (by omega)] at z; exact Or.inl z
        · rw [t55, if_neg (by omega)] at z; exact Or.inr (Or.inl z)
        · rw [L3, f3] at y1
          rcases List.mem_append.1 (List.mem_filter.1 y1).1 with y | y
          · exact Or.inr (Or.inr ⟨r, y, y2⟩)
          · rw [List.mem_singleton.1 y] at y2
            have y3 : 7 * (p : Int) + zsl b q 4 = (q' : Int) := y2
            omega
    have hS2 : zS2 b3 := fun q' hq hh => by
      have e : q' ≠ 7 * p + (zsl b q 4).toNat := fun e => hh (zHas_L.2 (by
        have e5 : zsl b q 5 = 0 ∨ zsl b q 5 = 1 := by omega
        rcases e5 with e5 | e5
        · exact Or.inl (by rw [t55, if_pos (by omega)])
        · exact Or.inr (Or.inl (by rw [t55, if_pos (by omega)]))))
      rw [t54, if_neg e]
      refine h.2 q' hq (fun y => hh (zHas_L.2 ?_))
      rcases zHas_L.1 y with z | z | ⟨r, y1, y2⟩
      · exact Or.inl (by rw [t55, if_neg (by omega)]; exact z)
      · exact Or.inr (Or.inl (by rw [t55, if_neg (by omega)]; exact z))
      · refine Or.inr (Or.inr ⟨r, ?_, y2⟩)
        rw [L3, f3]
        exact List.mem_filter.2 ⟨List.mem_append.2 (Or.inl y1), decide_eq_true (by omega)⟩
    refine ⟨⟨zst_kv h.1 hp (I := (zsl b q 4).toNat) (by omega) hf hsz1 (fun j hj => ?_) (fun k j hk => by rw [g50 k j (by omega), e50 k j (by omega)]) t54 (fun j _ hj => by rw [t55, if_neg (by omega)]) (fun j hj => t56 j (by omega)) (fun j hj hs2 hl => ?_) n2 n3 hRw (fun q' bk' hq r hr he => ?_) (zCe_f r3 hLC) (zRb_f r4 L3) hS1, hS2⟩, hp.1, hp.2.1, hp.2.2.1, by rw [(hf 26 u 7 (by unfold zeK; omega)).1, ek]; exact hp.2.2.2.1, by rw [ek]; exact hp.2.2.2.2⟩
    · rw [t55]
      by_cases e : j = (zsl b q 5).toNat
      · rw [if_pos (by omega), e]; exact hs1
      · rw [if_neg (by omega), h28 _ (by omega)]; exact v3 _ (by omega)
    · by_cases e : j / 64 = (zsl b q 5).toNat
      · -- a byte of the block
        have hn8 : (zpc (zsl b q 7) (zsl b q 5)) = zTn b q (zsl b q 5) := k6.symm
        have hs3 : ((((j - 64 * (zsl b q 5).toNat) / 8 : Nat)) : Int) < zTn b q (zsl b q 5) := by rw [← hn8]; unfold zpc; omega
        obtain ⟨i0, i1, i2, i3⟩ := zec_1 (P := zKp m (zkey (b.1 50 0) (7 * (p : Int) + zsl b q 4) (zsl b q 5))) (R := zCw m) (u := zCu0 m) (n := (zTn b q (zsl b q 5)).toNat) (k := (j - 64 * (zsl b q 5).toNat) / 8) (zec_K r3 _) (fun i hi hP => by rw [← hn8]; exact hmk _ (zmem_j hi) (of_decide_eq_true hP)) (by rw [← hn8]; omega) (by omega)
        have i4 : m.1 23 0 i0 = zkey (b.1 50 0) (7 * (p : Int) + zsl b q 4) (zsl b q 5) := of_decide_eq_true i2
        have i5 : (m.1 24 0 i0).toNat = 2 ^ ((j - 64 * (zsl b q 5).toNat) / 8) := i3
        have i6 := (r3.1 i0 i1).1
        have i7 : m.1 24 0 i0 = wshl 1 ((((j - 64 * (zsl b q 5).toNat) / 8 : Nat)) : Int) := by
          rw [wshl_1 (by omega), Int.toNat_natCast, ← i5]; omega
        have z1 := hPp.1 ((j - 64 * (zsl b q 5).toNat) / 8) hs3 i0 i1 i4 i7 ((j - 64 * (zsl b q 5).toNat) % 8) (by omega) (by omega)
        have z2 := V3 ((j - 64 * (zsl b q 5).toNat) / 8) ((j - 64 * (zsl b q 5).toNat) % 8) (by omega) (Or.inl hs3) (by omega)
        have z3 : zsq (zKp m (zkey (b.1 50 0) (7 * (p : Int) + zsl b q 4) (zsl b q 5))) (zCw m) (zCu0 m) (2 ^ ((j - 64 * (zsl b q 5).toNat) / 8), m.2.1 25 0 i0) := by
          have := zsq_m (P := zKp m (zkey (b.1 50 0) (7 * (p : Int) + zsl b q 4) (zsl b q 5))) (R := zCw m) i1 i2
          unfold zCw at this
          rw [i5] at this
          exact this
        have z4 := V2 _ hs3 ⟨_, zRp_L.2 ((r1.2.2 _ _ k1 _).1 (zKp_L.1 z3))⟩
        have z5 := zKp_L.2 ((r1.2.2 _ _ k1 _).2 (zRp_L.1 z4))
        have z6 := zec_u (zec_K r3 _) z3 z5
        rw [h2 j, e56]
        rw [show 64 * (zsl b q 5).toNat + 8 * ((j - 64 * (zsl b q 5).toNat) / 8) + (j - 64 * (zsl b q 5).toNat) % 8 = j by omega] at z1
        rw [show (104 * (7 * (p : Int) + zsl b q 4) + (64 * zsl b q 5 + 8 * ((((j - 64 * (zsl b q 5).toNat) / 8 : Nat)) : Int) + ((((j - 64 * (zsl b q 5).toNat) % 8 : Nat)) : Int))).toNat = 104 * (7 * p + (zsl b q 4).toNat) + j by omega] at z2
        rw [z1, z2, z6]
      · -- a byte of the other block
        rw [h28 _ (by omega)] at hs2
        have w := v3 (2 * (zsl b q 4).toNat + j / 64) (by omega)
        have w2 := h.1.2.2.2.2.2.2.1 (7 * p + (zsl b q 4).toNat) (by omega) (zHas_L.2 (by
          by_cases e : j / 64 = 0
          · exact Or.inl (by rw [show 2 * (7 * p + (zsl b q 4).toNat) = 14 * p + (2 * (zsl b q 4).toNat + j / 64) by omega, ← w]; exact hs2)
          · exact Or.inr (Or.inl (by rw [show 2 * (7 * p + (zsl b q 4).toNat) + 1 = 14 * p + (2 * (zsl b q 4).toNat + j / 64) by omega, ← w]; exact hs2))))
        have y2 := hy.2
        rw [show (7 * (p : Int) + zsl b q 4).toNat = 7 * p + (zsl b q 4).toNat by omega] at y2
        rw [h2 j, hPp.2 j (by omega), v6 _ j (by omega) (Or.inr n2) hj hs2 (by omega), t56 _ (by omega)]
    · rw [ek] at hq he
      have hl : r ∈ zLC m := by rw [hLC] at hr; exact (List.mem_filter.1 hr).1
      rw [g50 54 _ (by omega)]
      exact r2 q' bk' hq r hl he
  · rw [k6] at hS
    omega
theorem zst_cp {a b : wm} {u p i : Nat} (h : zR0 a b) (hp : zPr a b u p) (hi : i < 7) : zCpx a u i ↔ zCmR b (7 * (p : Int) + (i : Int)) := by
  obtain ⟨⟨v1, v3, v4, v5, v6⟩, -⟩ := h.2.1 u p hp
  have p2 := hp.2.1
  have s0 := v3 (2 * i) (by omega)
  have s1 := v3 (2 * i + 1) (by omega)
  unfold zCpx zCmR
  rw [show (7 * (p : Int) + (i : Int)).toNat = 7 * p + i by omega, show (2 * (7 * (p : Int) + (i : Int))).toNat = 14 * p + 2 * i by omega, show (2 * (7 * (p : Int) + (i : Int)) + 1).toNat = 14 * p + (2 * i + 1) by omega, s0, s1]
  constructor
  · rintro ⟨z1, z2⟩
    have w2 := h.2.2.2.2.2.2.1 (7 * p + i) (by omega) (zHas_L.2 (Or.inl (by rw [show 2 * (7 * p + i) = 14 * p + 2 * i by omega]; exact z1)))
    rw [v5 i hi w2] at z2
    exact ⟨w2, z1, z2.symm⟩
  · rintro ⟨z0, z1, z2⟩
    rw [v5 i hi z0]
    exact ⟨z1, z2.symm⟩
