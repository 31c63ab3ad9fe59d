set_option maxRecDepth 8000 in
theorem zs217_l14 {sc : xSc} {n : Nat × Nat} {m0 : wm} {c : Int} (hc : 0 ≤ c ∧ c ≤ 1000000) (f : Int) (g : Int) (hG : zB c m0) (hR : zRI m0) (h0 : 0 ≤ f ∧ f ≤ 1 ∧ 0 ≤ g ∧ g ≤ 7 ∧ m0.1 51 0 g.toNat = 1 ∧ m0.1 53 0 g.toNat = 1) : ∀ (d : Nat), (∀ (i : Int) (m : wm), (7 - i).toNat * 1000 + 999 = d → zB c m → zfr (fun k i j => (k = 67) ∨ (k = 68) ∨ (k = 69) ∨ (k = 70)) m0 m → zRI m → (0 ≤ f ∧ f ≤ 1 ∧ 0 ≤ g ∧ g ≤ 7 ∧ m.1 51 0 g.toNat = 1 ∧ m.1 53 0 g.toNat = 1 ∧ 1 ≤ i ∧ i ≤ 7) →  wW (zK sc) zM217 14 [(0, .inr (.inr (.inl (some (34, 0))))), (1, .inl f), (2, .inl g), (3, .inl i)] [] n m (wr (fun vv n1 m1 => vv = none ∧ n = n1 ∧ zB c m1 ∧ zfr (fun k i j => (k = 67) ∨ (k = 68) ∨ (k = 69) ∨ (k = 70)) m0 m1 ∧ (zRI m1 ∧ (True))))) ∧ (∀ (i : Int) (a : Int) (k : Int) (m : wm), (7 - i).toNat * 1000 + 500 + (7 - k).toNat = d → zB c m → zfr (fun k i j => (k = 67) ∨ (k = 68) ∨ (k = 69) ∨ (k = 70)) m0 m → zRI m → (0 ≤ f ∧ f ≤ 1 ∧ 0 ≤ g ∧ g ≤ 7 ∧ m.1 51 0 g.toNat = 1 ∧ m.1 53 0 g.toNat = 1 ∧ 1 ≤ i ∧ i ≤ m.1 52 0 g.toNat ∧ 3 ≤ a ∧ a ≤ 104 ∧ 0 ≤ k ∧ k ≤ 7) → (m.1 56 0 (104 * (7 * g) + a).toNat ≤ 6) →  wW (zK sc) zM217 47 [(0, .inr (.inr (.inl (some (34, 0))))), (1, .inl f), (2, .inl g), (3, .inl i), (4, .inl (6 * f + i - 1)), (5, .inl a), (6, .inl k)] [] n m (wr (fun vv n1 m1 => vv = none ∧ n = n1 ∧ zB c m1 ∧ zfr (fun k i j => (k = 67) ∨ (k = 68) ∨ (k = 69) ∨ (k = 70)) m0 m1 ∧ (zRI m1 ∧ (True))))) ∧ (∀ (i : Int) (k : Int) (m : wm), (7 - i).toNat * 1000 + (96 - k).toNat = d → zB c m → zfr (fun k i j => (k = 67) ∨ (k = 68) ∨ (k = 69) ∨ (k = 70)) m0 m → zRI m → (0 ≤ f ∧ f ≤ 1 ∧ 0 ≤ g ∧ g ≤ 7 ∧ m.1 51 0 g.toNat = 1 ∧ m.1 53 0 g.toNat = 1 ∧ 1 ≤ i ∧ i ≤ m.1 52 0 g.toNat ∧ 0 ≤ k ∧ k ≤ 96) →  wW (zK sc) zM217 115 [(0, .inr (.inr (.inl (some (34, 0))))), (1, .inl f), (2, .inl g), (3, .inl i), (4, .inl (6 * f + i - 1)), (6, .inl k)] [] n m (wr (fun vv n1 m1 => vv = none ∧ n = n1 ∧ zB c m1 ∧ zfr (fun k i j => (k = 67) ∨ (k = 68) ∨ (k = 69) ∨ (k = 70)) m0 m1 ∧ (zRI m1 ∧ (True))))) := by
  intro d
  induction d using Nat.strongRecOn with
  | ind d ih =>
    refine ⟨?_, ?_, ?_⟩
    · intro i m hd hGm hFm hRm hi
      have bc : 0 ≤ m.1 52 0 g.toNat ∧ m.1 52 0 g.toNat ≤ 6 := hGm.1 52 _ rfl _ _
      have b1 : 0 ≤ m.1 52 0 g.toNat ∧ m.1 52 0 g.toNat ≤ 6 := hGm.1 52 _ rfl _ _
      refine ww_go 5 (pc' := 21) (L' := [(0, .inr (.inr (.inl (some (34, 0))))), (1, .inl f), (2, .inl g), (3, .inl i)]) (st' := [.inl (m.1 52 0 g.toNat), .inl i]) (m' := m) (o := some ((0 < 1) ∧ (0 < 1 ∧ 0 ≤ g ∧ g < ((8 : Nat) : Int)))) rfl (show (0 < 1) ∧ (0 < 1 ∧ 0 ≤ g ∧ g < ((8 : Nat) : Int)) from by omega) ?_
      refine ww_ic (t := 164) rfl rfl (by omega) (fun (h2 : m.1 52 0 g.toNat < i) => ?_) (fun (h2 : ¬ (m.1 52 0 g.toNat < i)) => ?_)
      · show wW (zK sc) zM217 164 [(0, .inr (.inr (.inl (some (34, 0))))), (1, .inl f), (2, .inl g), (3, .inl i)] [] _ _ _
        exact ww_rV rfl rfl ⟨rfl, rfl, zB_mono hGm (by omega), hFm, ⟨hRm, by trivial⟩⟩
      · show wW (zK sc) zM217 24 [(0, .inr (.inr (.inl (some (34, 0))))), (1, .inl f), (2, .inl g), (3, .inl i)] [] _ _ _
        refine ww_go 13 (pc' := 39) (L' := [(4, .inl (((6 * f) + i) - 1)), (0, .inr (.inr (.inl (some (34, 0))))), (1, .inl f), (2, .inl g), (3, .inl i)]) (st' := [.inl (i - 1), .inl g, .inr (.inr (.inl (some (34, 0))))]) (m' := m) (o := none) rfl trivial ?_
        refine ww_call (vs := [.inr (.inr (.inl (some (34, 0)))), .inl g, .inl (i - 1)]) (r := []) (p := 0 < 1) rfl rfl rfl rfl (show 0 < 1 from by omega) (zs249 (c := c) (by omega) g (i - 1) _ hGm (by omega) (zRI_mf (p := g) hRm (by omega) (by omega))) ?_
        rintro _ _ _ ⟨r3, rfl, rfl, rfl, hr4⟩
        show wW (zK sc) zM217 42 [(4, .inl (((6 * f) + i) - 1)), (0, .inr (.inr (.inl (some (34, 0))))), (1, .inl f), (2, .inl g), (3, .inl i)] [.inl r3] _ _ _
        refine ww_go 3 (pc' := 47) (L' := [(6, .inl 0), (5, .inl r3), (4, .inl (((6 * f) + i) - 1)), (0, .inr (.inr (.inl (some (34, 0))))), (1, .inl f), (2, .inl g), (3, .inl i)]) (st' := []) (m' := m) (o := none) rfl trivial ?_
        refine ww_sub (L := [(0, .inr (.inr (.inl (some (34, 0))))), (1, .inl f), (2, .inl g), (3, .inl i), (4, .inl (((6 * f) + i) - 1)), (5, .inl r3), (6, .inl 0)]) ⟨rfl, rfl, rfl, rfl, rfl, rfl, rfl, trivial⟩ rfl rfl ?_
        exact (ih _ (by omega)).2.1 i r3 0 m rfl (zB_mono hGm (by omega)) hFm hRm (by omega) (by exact (zMF_n (i := i - 1) (zRI_mf (p := g) hRm (by omega) (by omega)) (hr4).1 rfl (by omega)).2.1)
    · intro i a k m hd hGm hFm hRm hi hN
      have bc : 0 ≤ m.1 52 0 g.toNat ∧ m.1 52 0 g.toNat ≤ 6 := hGm.1 52 _ rfl _ _
      refine ww_go 6 (pc' := 56) (L' := [(0, .inr (.inr (.inl (some (34, 0))))), (1, .inl f), (2, .inl g), (3, .inl i), (4, .inl (6 * f + i - 1)), (5, .inl a), (6, .inl k)]) (st' := [.inl a, .inl (7 * g), .inr (.inr (.inl (some (34, 0)))), .inl k]) (m' := m) (o := none) rfl trivial ?_
      refine ww_call (vs := [.inr (.inr (.inl (some (34, 0)))), .inl (7 * g), .inl a]) (r := [.inl k]) (p := 0 < 1) rfl rfl rfl rfl (show 0 < 1 from by omega) (zs185 (c := c) (by omega) (7 * g) a hGm (by omega)) ?_
      rintro _ _ _ ⟨r1, rfl, rfl, rfl, hr2⟩
      show wW (zK sc) zM217 59 [(0, .inr (.inr (.inl (some (34, 0))))), (1, .inl f), (2, .inl g), (3, .inl i), (4, .inl (6 * f + i - 1)), (5, .inl a), (6, .inl k)] [.inl r1, .inl k] _ _ _
      refine ww_ic (t := 94) rfl rfl (by omega) (fun (h3 : r1 < k) => ?_) (fun (h3 : ¬ (r1 < k)) => ?_)
      · show wW (zK sc) zM217 94 [(0, .inr (.inr (.inl (some (34, 0))))), (1, .inl f), (2, .inl g), (3, .inl i), (4, .inl (6 * f + i - 1)), (5, .inl a), (6, .inl k)] [] _ _ _
        have zv1 := (hRm g (by omega) (by omega)).2.2.2 (by omega) i (by omega) (by omega)
        have zv2 := (hRm g (by omega) (by omega)).2.1 i (by omega) (by omega) zv1
        have b4 : (-1) ≤ m.1 54 0 (((7 * g) + i).toNat) ∧ m.1 54 0 (((7 * g) + i).toNat) ≤ 104 := hGm.1 54 _ rfl _ _
        refine ww_go 12 (pc' := 112) (L' := [(0, .inr (.inr (.inl (some (34, 0))))), (1, .inl f), (2, .inl g), (3, .inl i), (4, .inl (6 * f + i - 1)), (5, .inl a), (6, .inl k)]) (st' := []) (m' := wuI m 69 0 ((6 * f + i - 1).toNat) (m.1 54 0 (((7 * g) + i).toNat))) (o := some ((0 < 1) ∧ (0 < 1) ∧ (0 < 1 ∧ 0 ≤ (7 * g) + i ∧ (7 * g) + i < ((56 : Nat) : Int)) ∧ (0 < 1 ∧ 0 ≤ 6 * f + i - 1 ∧ 6 * f + i - 1 < ((12 : Nat) : Int)))) rfl (show (0 < 1) ∧ (0 < 1) ∧ (0 < 1 ∧ 0 ≤ (7 * g) + i ∧ (7 * g) + i < ((56 : Nat) : Int)) ∧ (0 < 1 ∧ 0 ≤ 6 * f + i - 1 ∧ 6 * f + i - 1 < ((12 : Nat) : Int)) from by omega) ?_
        obtain ⟨m5, hm5⟩ : ∃ zq9 : wm, zq9 = wuI m 69 0 ((6 * f + i - 1).toNat) (m.1 54 0 (((7 * g) + i).toNat)) := ⟨_, rfl⟩
        rw [← hm5]
        have hGm5 : zB c m5 := by rw [hm5]; exact zB_wI rfl (show 0 ≤ m.1 54 0 (((7 * g) + i).toNat) ∧ m.1 54 0 (((7 * g) + i).toNat) ≤ 96 from by omega) hGm
        have hFm5 : zfr (fun k i j => (k = 67) ∨ (k = 68) ∨ (k = 69) ∨ (k = 70)) m0 m5 := by rw [hm5]; exact zfr_wI hFm (show (69 = 67) ∨ (69 = 68) ∨ (69 = 69) ∨ (69 = 70) from Or.inr (Or.inr (Or.inl rfl)))
        have s6 : m5.1 69 0 ((6 * f + i - 1).toNat) = m.1 54 0 (((7 * g) + i).toNat) := by rw [hm5]; exact wuI_self
        have w7 : m5.1 51 0 g.toNat = m.1 51 0 g.toNat := by rw [hm5]; rfl
        have w8 : m5.1 53 0 g.toNat = m.1 53 0 g.toNat := by rw [hm5]; rfl
        have w9 : m5.1 52 0 g.toNat = m.1 52 0 g.toNat := by rw [hm5]; rfl
        have w10 : m5.1 56 0 (((104 * (7 * g)) + a).toNat) = m.1 56 0 (((104 * (7 * g)) + a).toNat) := by rw [hm5]; rfl
        have hRm5 : zRI m5 := by rw [hm5]; exact zRI_wo (by decide) hRm
        refine ww_go 2 (pc' := 115) (L' := [(6, .inl 0), (0, .inr (.inr (.inl (some (34, 0))))), (1, .inl f), (2, .inl g), (3, .inl i), (4, .inl (6 * f + i - 1)), (5, .inl a)]) (st' := []) (m' := m5) (o := none) rfl trivial ?_
        refine ww_sub (L := [(0, .inr (.inr (.inl (some (34, 0))))), (1, .inl f), (2, .inl g), (3, .inl i), (4, .inl (6 * f + i - 1)), (6, .inl 0)]) ⟨rfl, rfl, rfl, rfl, rfl, rfl, trivial⟩ rfl rfl ?_
        exact (ih _ (by omega)).2.2 i 0 m5 rfl (zB_mono hGm5 (by omega)) hFm5 hRm5 (by omega)
      · show wW (zK sc) zM217 62 [(0, .inr (.inr (.inl (some (34, 0))))), (1, .inl f), (2, .inl g), (3, .inl i), (4, .inl (6 * f + i - 1)), (5, .inl a), (6, .inl k)] [] _ _ _
        refine ww_go 14 (pc' := 84) (L' := [(0, .inr (.inr (.inl (some (34, 0))))), (1, .inl f), (2, .inl g), (3, .inl i), (4, .inl (6 * f + i - 1)), (5, .inl a), (6, .inl k)]) (st' := [.inl (a + k), .inl (7 * g), .inr (.inr (.inl (some (34, 0)))), .inl ((7 * (6 * f + i - 1)) + k), .inr (.inr (.inl (some (68, 0))))]) (m' := m) (o := some ((0 < 1))) rfl (show (0 < 1) from by omega) ?_
        refine ww_call (vs := [.inr (.inr (.inl (some (34, 0)))), .inl (7 * g), .inl (a + k)]) (r := [.inl ((7 * (6 * f + i - 1)) + k), .inr (.inr (.inl (some (68, 0))))]) (p := 0 < 1) rfl rfl rfl rfl (show 0 < 1 from by omega) (zs185 (c := c) (by omega) (7 * g) (a + k) hGm (by omega)) ?_
        rintro _ _ _ ⟨r11, rfl, rfl, rfl, hr12⟩
        have z13 : k = 0 → r11 ≤ 6 := fun z => by rw [(hr12).1, z, Int.add_zero]; exact hN
        show wW (zK sc) zM217 87 [(0, .inr (.inr (.inl (some (34, 0))))), (1, .inl f), (2, .inl g), (3, .inl i), (4, .inl (6 * f + i - 1)), (5, .inl a), (6, .inl k)] [.inl r11, .inl ((7 * (6 * f + i - 1)) + k), .inr (.inr (.inl (some (68, 0))))] _ _ _
        refine ww_go 1 (pc' := 88) (L' := [(0, .inr (.inr (.inl (some (34, 0))))), (1, .inl f), (2, .inl g), (3, .inl i), (4, .inl (6 * f + i - 1)), (5, .inl a), (6, .inl k)]) (st' := []) (m' := wuI m 68 0 (((7 * (6 * f + i - 1)) + k).toNat) r11) (o := some ((0 < 1 ∧ 0 ≤ (7 * (6 * f + i - 1)) + k ∧ (7 * (6 * f + i - 1)) + k < ((84 : Nat) : Int)))) rfl (show (0 < 1 ∧ 0 ≤ (7 * (6 * f + i - 1)) + k ∧ (7 * (6 * f + i - 1)) + k < ((84 : Nat) : Int)) from by omega) ?_
        obtain ⟨m14, hm14⟩ : ∃ zq9 : wm, zq9 = wuI m 68 0 (((7 * (6 * f + i - 1)) + k).toNat) r11 := ⟨_, rfl⟩
        rw [← hm14]
        have hGm14 : zB c m14 := by rw [hm14]; exact zB_wI rfl (zRNw (by omega)) hGm
        have hFm14 : zfr (fun k i j => (k = 67) ∨ (k = 68) ∨ (k = 69) ∨ (k = 70)) m0 m14 := by rw [hm14]; exact zfr_wI hFm (show (68 = 67) ∨ (68 = 68) ∨ (68 = 69) ∨ (68 = 70) from Or.inr (Or.inl rfl))
        have s15 : m14.1 68 0 (((7 * (6 * f + i - 1)) + k).toNat) = r11 := by rw [hm14]; exact wuI_self
        have w16 : m14.1 51 0 g.toNat = m.1 51 0 g.toNat := by rw [hm14]; rfl
        have w17 : m14.1 53 0 g.toNat = m.1 53 0 g.toNat := by rw [hm14]; rfl
        have w18 : m14.1 52 0 g.toNat = m.1 52 0 g.toNat := by rw [hm14]; rfl
        have w19 : m14.1 56 0 (((104 * (7 * g)) + a).toNat) = m.1 56 0 (((104 * (7 * g)) + a).toNat) := by rw [hm14]; rfl
        have hRm14 : zRI m14 := by rw [hm14]; exact zRI_wo (by decide) hRm
        refine ww_go 2 (pc' := 47) (L' := [(6, .inl (k + 1)), (0, .inr (.inr (.inl (some (34, 0))))), (1, .inl f), (2, .inl g), (3, .inl i), (4, .inl (6 * f + i - 1)), (5, .inl a)]) (st' := []) (m' := m14) (o := none) rfl trivial ?_
        refine ww_sub (L := [(0, .inr (.inr (.inl (some (34, 0))))), (1, .inl f), (2, .inl g), (3, .inl i), (4, .inl (6 * f + i - 1)), (5, .inl a), (6, .inl (k + 1))]) ⟨rfl, rfl, rfl, rfl, rfl, rfl, rfl, trivial⟩ rfl rfl ?_
        exact (ih _ (by omega)).2.1 i a (k + 1) m14 rfl (zB_mono hGm14 (by omega)) hFm14 hRm14 (by omega) (by omega)
    · intro i k m hd hGm hFm hRm hi
      have bc : 0 ≤ m.1 52 0 g.toNat ∧ m.1 52 0 g.toNat ≤ 6 := hGm.1 52 _ rfl _ _
      have b1 : 0 ≤ m.1 69 0 ((6 * f + i - 1).toNat) ∧ m.1 69 0 ((6 * f + i - 1).toNat) ≤ 96 := hGm.1 69 _ rfl _ _
      refine ww_go 5 (pc' := 124) (L' := [(0, .inr (.inr (.inl (some (34, 0))))), (1, .inl f), (2, .inl g), (3, .inl i), (4, .inl (6 * f + i - 1)), (6, .inl k)]) (st' := [.inl (m.1 69 0 ((6 * f + i - 1).toNat)), .inl k]) (m' := m) (o := some ((0 < 1) ∧ (0 < 1 ∧ 0 ≤ 6 * f + i - 1 ∧ 6 * f + i - 1 < ((12 : Nat) : Int)))) rfl (show (0 < 1) ∧ (0 < 1 ∧ 0 ≤ 6 * f + i - 1 ∧ 6 * f + i - 1 < ((12 : Nat) : Int)) from by omega) ?_
      refine ww_ic (t := 158) rfl rfl (by omega) (fun (h2 : m.1 69 0 ((6 * f + i - 1).toNat) ≤ k) => ?_) (fun (h2 : ¬ (m.1 69 0 ((6 * f + i - 1).toNat) ≤ k)) => ?_)
      · show wW (zK sc) zM217 158 [(0, .inr (.inr (.inl (some (34, 0))))), (1, .inl f), (2, .inl g), (3, .inl i), (4, .inl (6 * f + i - 1)), (6, .inl k)] [] _ _ _
        refine ww_go 2 (pc' := 14) (L' := [(3, .inl (i + 1)), (0, .inr (.inr (.inl (some (34, 0))))), (1, .inl f), (2, .inl g), (4, .inl (6 * f + i - 1)), (6, .inl k)]) (st' := []) (m' := m) (o := none) rfl trivial ?_
        refine ww_sub (L := [(0, .inr (.inr (.inl (some (34, 0))))), (1, .inl f), (2, .inl g), (3, .inl (i + 1))]) ⟨rfl, rfl, rfl, rfl, trivial⟩ rfl rfl ?_
        exact (ih _ (by omega)).1 (i + 1) m rfl (zB_mono hGm (by omega)) hFm hRm (by omega)
      · show wW (zK sc) zM217 127 [(0, .inr (.inr (.inl (some (34, 0))))), (1, .inl f), (2, .inl g), (3, .inl i), (4, .inl (6 * f + i - 1)), (6, .inl k)] [] _ _ _
        refine ww_go 14 (pc' := 148) (L' := [(0, .inr (.inr (.inl (some (34, 0))))), (1, .inl f), (2, .inl g), (3, .inl i), (4, .inl (6 * f + i - 1)), (6, .inl k)]) (st' := [.inl k, .inl ((7 * g) + i), .inr (.inr (.inl (some (34, 0)))), .inl ((96 * (6 * f + i - 1)) + k), .inr (.inr (.inl (some (70, 0))))]) (m' := m) (o := some ((0 < 1))) rfl (show (0 < 1) from by omega) ?_
        refine ww_call (vs := [.inr (.inr (.inl (some (34, 0)))), .inl ((7 * g) + i), .inl k]) (r := [.inl ((96 * (6 * f + i - 1)) + k), .inr (.inr (.inl (some (70, 0))))]) (p := 0 < 1) rfl rfl rfl rfl (show 0 < 1 from by omega) (zs185 (c := c) (by omega) ((7 * g) + i) k hGm (by omega)) ?_
        rintro _ _ _ ⟨r3, rfl, rfl, rfl, hr4⟩
        show wW (zK sc) zM217 151 [(0, .inr (.inr (.inl (some (34, 0))))), (1, .inl f), (2, .inl g), (3, .inl i), (4, .inl (6 * f + i - 1)), (6, .inl k)] [.inl r3, .inl ((96 * (6 * f + i - 1)) + k), .inr (.inr (.inl (some (70, 0))))] _ _ _
        refine ww_go 1 (pc' := 152) (L' := [(0, .inr (.inr (.inl (some (34, 0))))), (1, .inl f), (2, .inl g), (3, .inl i), (4, .inl (6 * f + i - 1)), (6, .inl k)]) (st' := []) (m' := wuI m 70 0 (((96 * (6 * f + i - 1)) + k).toNat) r3) (o := some ((0 < 1 ∧ 0 ≤ (96 * (6 * f + i - 1)) + k ∧ (96 * (6 * f + i - 1)) + k < ((1152 : Nat) : Int)))) rfl (show (0 < 1 ∧ 0 ≤ (96 * (6 * f + i - 1)) + k ∧ (96 * (6 * f + i - 1)) + k < ((1152 : Nat) : Int)) from by omega) ?_
        obtain ⟨m5, hm5⟩ : ∃ zq9 : wm, zq9 = wuI m 70 0 (((96 * (6 * f + i - 1)) + k).toNat) r3 := ⟨_, rfl⟩
        rw [← hm5]
        have hGm5 : zB c m5 := by rw [hm5]; exact zB_wI rfl (show 0 ≤ r3 ∧ r3 ≤ 255 from by omega) hGm
        have hFm5 : zfr (fun k i j => (k = 67) ∨ (k = 68) ∨ (k = 69) ∨ (k = 70)) m0 m5 := by rw [hm5]; exact zfr_wI hFm (show (70 = 67) ∨ (70 = 68) ∨ (70 = 69) ∨ (70 = 70) from Or.inr (Or.inr (Or.inr (rfl))))
        have s6 : m5.1 70 0 (((96 * (6 * f + i - 1)) + k).toNat) = r3 := by rw [hm5]; exact wuI_self
        have w7 : m5.1 51 0 g.toNat = m.1 51 0 g.toNat := by rw [hm5]; rfl
        have w8 : m5.1 53 0 g.toNat = m.1 53 0 g.toNat := by rw [hm5]; rfl
        have w9 : m5.1 52 0 g.toNat = m.1 52 0 g.toNat := by rw [hm5]; rfl
        have hRm5 : zRI m5 := by rw [hm5]; exact zRI_wo (by decide) hRm
        refine ww_go 2 (pc' := 115) (L' := [(6, .inl (k + 1)), (0, .inr (.inr (.inl (some (34, 0))))), (1, .inl f), (2, .inl g), (3, .inl i), (4, .inl (6 * f + i - 1))]) (st' := []) (m' := m5) (o := none) rfl trivial ?_
        refine ww_sub (L := [(0, .inr (.inr (.inl (some (34, 0))))), (1, .inl f), (2, .inl g), (3, .inl i), (4, .inl (6 * f + i - 1)), (6, .inl (k + 1))]) ⟨rfl, rfl, rfl, rfl, rfl, rfl, trivial⟩ rfl rfl ?_
        exact (ih _ (by omega)).2.2 i (k + 1) m5 rfl (zB_mono hGm5 (by omega)) hFm5 hRm5 (by omega)
set_option maxRecDepth 8000 in
/-- Mo.keep -/
theorem zs217 {sc : xSc} {n : Nat × Nat} {m0 : wm} {c : Int} (hc : 0 ≤ c ∧ c ≤ 1000000) (f : Int) (g : Int) (hG : zB c m0) (hR : zRI m0) (h0 : 0 ≤ f ∧ f ≤ 1 ∧ 0 ≤ g ∧ g ≤ 7 ∧ m0.1 51 0 g.toNat = 1 ∧ m0.1 53 0 g.toNat = 1) : wX (zK sc) 217 [.inr (.inr (.inl (some (34, 0)))), .inl f, .inl g] n m0 (wr (fun vv n1 m1 => vv = none ∧ n = n1 ∧ zB c m1 ∧ zfr (fun k i j => (k = 67) ∨ (k = 68) ∨ (k = 69) ∨ (k = 70)) m0 m1 ∧ (zRI m1 ∧ (True)))) := by
  refine wX_of (N := zM217) rfl (Nat.le_of_ble_eq_true rfl) ?_
  show wW (zK sc) zM217 0 [(0, .inr (.inr (.inl (some (34, 0))))), (1, .inl f), (2, .inl g)] [] n m0 _
  have hF : zfr (fun k i j => (k = 67) ∨ (k = 68) ∨ (k = 69) ∨ (k = 70)) m0 m0 := zfr_rf
  have b1 : 0 ≤ m0.1 52 0 g.toNat ∧ m0.1 52 0 g.toNat ≤ 6 := hG.1 52 _ rfl _ _
  refine ww_go 8 (pc' := 12) (L' := [(0, .inr (.inr (.inl (some (34, 0))))), (1, .inl f), (2, .inl g)]) (st' := []) (m' := wuI m0 67 0 f.toNat (m0.1 52 0 g.toNat)) (o := some ((0 < 1) ∧ (0 < 1) ∧ (0 < 1 ∧ 0 ≤ g ∧ g < ((8 : Nat) : Int)) ∧ (0 < 1 ∧ 0 ≤ f ∧ f < ((2 : Nat) : Int)))) rfl (show (0 < 1) ∧ (0 < 1) ∧ (0 < 1 ∧ 0 ≤ g ∧ g < ((8 : Nat) : Int)) ∧ (0 < 1 ∧ 0 ≤ f ∧ f < ((2 : Nat) : Int)) from by omega) ?_
  obtain ⟨m2, hm2⟩ : ∃ zq9 : wm, zq9 = wuI m0 67 0 f.toNat (m0.1 52 0 g.toNat) := ⟨_, rfl⟩
  rw [← hm2]
  have hGm2 : zB c m2 := by rw [hm2]; exact zB_wI rfl (show 0 ≤ m0.1 52 0 g.toNat ∧ m0.1 52 0 g.toNat ≤ 6 from by omega) hG
  have hFm2 : zfr (fun k i j => (k = 67) ∨ (k = 68) ∨ (k = 69) ∨ (k = 70)) m0 m2 := by rw [hm2]; exact zfr_wI hF (show (67 = 67) ∨ (67 = 68) ∨ (67 = 69) ∨ (67 = 70) from Or.inl rfl)
  have s3 : m2.1 67 0 f.toNat = m0.1 52 0 g.toNat := by rw [hm2]; exact wuI_self
  have w4 : m2.1 51 0 g.toNat = m0.1 51 0 g.toNat := by rw [hm2]; rfl
  have w5 : m2.1 53 0 g.toNat = m0.1 53 0 g.toNat := by rw [hm2]; rfl
  have w6 : m2.1 52 0 g.toNat = m0.1 52 0 g.toNat := by rw [hm2]; rfl
  have hRm2 : zRI m2 := by rw [hm2]; exact zRI_wo (by decide) hR
  refine ww_go 2 (pc' := 14) (L' := [(3, .inl 1), (0, .inr (.inr (.inl (some (34, 0))))), (1, .inl f), (2, .inl g)]) (st' := []) (m' := m2) (o := none) rfl trivial ?_
  refine ww_sub (L := [(0, .inr (.inr (.inl (some (34, 0))))), (1, .inl f), (2, .inl g), (3, .inl 1)]) ⟨rfl, rfl, rfl, rfl, trivial⟩ rfl rfl ?_
  exact (zs217_l14 hc f g hG hR h0 _).1 1 m2 rfl (zB_mono hGm2 (by omega)) hFm2 hRm2 (by omega)
set_option maxRecDepth 8000 in
theorem zs234_l30 {sc : xSc} {n : Nat × Nat} {m0 : wm} {c : Int} (hc : 0 ≤ c ∧ c ≤ 980000) (f : Int) (hG : zB c m0) (hR : zRI m0) (h0 : -2147483648 ≤ f ∧ f ≤ 2147483647) (hl : m0.1 65 0 f.toNat ≤ 599) : ∀ (d : Nat), ∀ (g : Int) (m : wm), (g + 1).toNat = d → zB c m → zfr (fun k i j => (k = 67) ∨ (k = 68) ∨ (k = 69) ∨ (k = 70) ∨ (k = 64) ∨ (k = 66) ∨ (k = 71) ∨ (k = 72) ∨ (k = 65 ∧ j = f.toNat) ∨ (k = 34 ∧ j = 0) ∨ (k = 34 ∧ j = 48) ∨ (k = 34 ∧ j = 47)) m0 m → zRI m → (0 ≤ f ∧ f ≤ 1 ∧ 4 * f - 1 ≤ g ∧ g ≤ 4 * f + 3 ∧ m.1 65 0 f.toNat = m0.1 65 0 f.toNat) →  wW (zK sc) zM234 30 [(0, .inr (.inr (.inl (some (34, 0))))), (1, .inl f), (2, .inl g)] [] n m (wr (fun vv n1 m1 => ∃ r : Int, vv = some (.inl r) ∧ n = n1 ∧ zB (c + 2) m1 ∧ zfr (fun k i j => (k = 67) ∨ (k = 68) ∨ (k = 69) ∨ (k = 70) ∨ (k = 64) ∨ (k = 66) ∨ (k = 71) ∨ (k = 72) ∨ (k = 65 ∧ j = f.toNat) ∨ (k = 34 ∧ j = 0) ∨ (k = 34 ∧ j = 48) ∨ (k = 34 ∧ j = 47)) m0 m1 ∧ (zRI m1 ∧ (m1.1 65 0 f.toNat ≤ m0.1 65 0 f.toNat + 1)))) := by
  intro d
  induction d using Nat.strongRecOn with
  | ind d ih =>
    intro g m hd hGm hFm hRm hi
    have br : 0 ≤ m0.1 65 0 f.toNat ∧ m0.1 65 0 f.toNat ≤ c := hG.1 65 _ rfl _ _
    refine ww_go 4 (pc' := 34) (L' := [(0, .inr (.inr (.inl (some (34, 0))))), (1, .inl f), (2, .inl g)]) (st' := [.inl (4 * f), .inl g]) (m' := m) (o := none) rfl trivial ?_
    refine ww_ic (t := 68) rfl rfl (by omega) (fun (h1 : g < 4 * f) => ?_) (fun (h1 : ¬ (g < 4 * f)) => ?_)
    · show wW (zK sc) zM234 68 [(0, .inr (.inr (.inl (some (34, 0))))), (1, .inl f), (2, .inl g)] [] _ _ _
      refine ww_go 4 (pc' := 72) (L' := [(0, .inr (.inr (.inl (some (34, 0))))), (1, .inl f), (2, .inl g)]) (st' := [.inl (4 * f), .inl g]) (m' := m) (o := none) rfl trivial ?_
      refine ww_ic (t := 77) rfl rfl (by omega) (fun (h2 : 4 * f ≤ g) => absurd h2 (by omega)) (fun (h2 : ¬ (4 * f ≤ g)) => ?_)
      show wW (zK sc) zM234 75 [(0, .inr (.inr (.inl (some (34, 0))))), (1, .inl f), (2, .inl g)] [] _ _ _
      refine ww_go 1 (pc' := 76) (L' := [(0, .inr (.inr (.inl (some (34, 0))))), (1, .inl f), (2, .inl g)]) (st' := [.inl 0]) (m' := m) (o := none) rfl trivial ?_
      exact ww_rI rfl rfl ⟨_, rfl, rfl, zB_mono hGm (by omega), hFm, ⟨hRm, by omega⟩⟩
    · show wW (zK sc) zM234 37 [(0, .inr (.inr (.inl (some (34, 0))))), (1, .inl f), (2, .inl g)] [] _ _ _
      have b3 : 0 ≤ m.1 53 0 g.toNat ∧ m.1 53 0 g.toNat ≤ 2 := hGm.1 53 _ rfl _ _
      refine ww_go 5 (pc' := 44) (L' := [(0, .inr (.inr (.inl (some (34, 0))))), (1, .inl f), (2, .inl g)]) (st' := [.inl 1, .inl (m.1 53 0 g.toNat)]) (m' := m) (o := some ((0 < 1) ∧ (0 < 1 ∧ 0 ≤ g ∧ g < ((8 : Nat) : Int)))) rfl (show (0 < 1) ∧ (0 < 1 ∧ 0 ≤ g ∧ g < ((8 : Nat) : Int)) from by omega) ?_
      refine ww_ic (t := 62) rfl rfl (by omega) (fun (h4 : m.1 53 0 g.toNat ≠ 1) => ?_) (fun (h4 : ¬ (m.1 53 0 g.toNat ≠ 1)) => ?_)
      · show wW (zK sc) zM234 62 [(0, .inr (.inr (.inl (some (34, 0))))), (1, .inl f), (2, .inl g)] [] _ _ _
        refine ww_go 2 (pc' := 30) (L' := [(2, .inl (g + (-1))), (0, .inr (.inr (.inl (some (34, 0))))), (1, .inl f)]) (st' := []) (m' := m) (o := none) rfl trivial ?_
        refine ww_sub (L := [(0, .inr (.inr (.inl (some (34, 0))))), (1, .inl f), (2, .inl (g + (-1)))]) ⟨rfl, rfl, rfl, trivial⟩ rfl rfl ?_
        exact (ih _ (by omega)) (g + (-1)) m rfl (zB_mono hGm (by omega)) hFm hRm (by omega)
      · show wW (zK sc) zM234 47 [(0, .inr (.inr (.inl (some (34, 0))))), (1, .inl f), (2, .inl g)] [] _ _ _
        have b5 : 0 ≤ m.1 50 0 g.toNat ∧ m.1 50 0 g.toNat ≤ 65535 := hGm.1 50 _ rfl _ _
        have b6 : 0 ≤ m.1 64 0 f.toNat ∧ m.1 64 0 f.toNat ≤ 65535 := hGm.1 64 _ rfl _ _
        refine ww_go 8 (pc' := 59) (L' := [(0, .inr (.inr (.inl (some (34, 0))))), (1, .inl f), (2, .inl g)]) (st' := [.inl (m.1 64 0 f.toNat), .inl (m.1 50 0 g.toNat)]) (m' := m) (o := some ((0 < 1) ∧ (0 < 1 ∧ 0 ≤ g ∧ g < ((8 : Nat) : Int)) ∧ (0 < 1) ∧ (0 < 1 ∧ 0 ≤ f ∧ f < ((2 : Nat) : Int)))) rfl (show (0 < 1) ∧ (0 < 1 ∧ 0 ≤ g ∧ g < ((8 : Nat) : Int)) ∧ (0 < 1) ∧ (0 < 1 ∧ 0 ≤ f ∧ f < ((2 : Nat) : Int)) from by omega) ?_
        refine ww_ic (t := 68) rfl rfl (by omega) (fun (h7 : m.1 64 0 f.toNat < m.1 50 0 g.toNat) => ?_) (fun (h7 : ¬ (m.1 64 0 f.toNat < m.1 50 0 g.toNat)) => ?_)
        · show wW (zK sc) zM234 68 [(0, .inr (.inr (.inl (some (34, 0))))), (1, .inl f), (2, .inl g)] [] _ _ _
          refine ww_go 4 (pc' := 72) (L' := [(0, .inr (.inr (.inl (some (34, 0))))), (1, .inl f), (2, .inl g)]) (st' := [.inl (4 * f), .inl g]) (m' := m) (o := none) rfl trivial ?_
          refine ww_ic (t := 77) rfl rfl (by omega) (fun (h8 : 4 * f ≤ g) => ?_) (fun (h8 : ¬ (4 * f ≤ g)) => absurd (show 4 * f ≤ g from by omega) h8)
          show wW (zK sc) zM234 77 [(0, .inr (.inr (.inl (some (34, 0))))), (1, .inl f), (2, .inl g)] [] _ _ _
          have zg1 := (hRm g (by omega) (by omega)).2.2.1 (by omega)
          have b9 : 0 ≤ m.1 50 0 g.toNat ∧ m.1 50 0 g.toNat ≤ 65535 := hGm.1 50 _ rfl _ _
          refine ww_go 8 (pc' := 89) (L' := [(0, .inr (.inr (.inl (some (34, 0))))), (1, .inl f), (2, .inl g)]) (st' := []) (m' := wuI m 64 0 f.toNat (m.1 50 0 g.toNat)) (o := some ((0 < 1) ∧ (0 < 1) ∧ (0 < 1 ∧ 0 ≤ g ∧ g < ((8 : Nat) : Int)) ∧ (0 < 1 ∧ 0 ≤ f ∧ f < ((2 : Nat) : Int)))) rfl (show (0 < 1) ∧ (0 < 1) ∧ (0 < 1 ∧ 0 ≤ g ∧ g < ((8 : Nat) : Int)) ∧ (0 < 1 ∧ 0 ≤ f ∧ f < ((2 : Nat) : Int)) from by omega) ?_
          obtain ⟨m10, hm10⟩ : ∃ zq9 : wm, zq9 = wuI m 64 0 f.toNat (m.1 50 0 g.toNat) := ⟨_, rfl⟩
          rw [← hm10]
          have hGm10 : zB c m10 := by rw [hm10]; exact zB_wI rfl (show 0 ≤ m.1 50 0 g.toNat ∧ m.1 50 0 g.toNat ≤ 65535 from by omega) hGm
          have hFm10 : zfr (fun k i j => (k = 67) ∨ (k = 68) ∨ (k = 69) ∨ (k = 70) ∨ (k = 64) ∨ (k = 66) ∨ (k = 71) ∨ (k = 72) ∨ (k = 65 ∧ j = f.toNat) ∨ (k = 34 ∧ j = 0) ∨ (k = 34 ∧ j = 48) ∨ (k = 34 ∧ j = 47)) m0 m10 := by rw [hm10]; exact zfr_wI hFm (show (64 = 67) ∨ (64 = 68) ∨ (64 = 69) ∨ (64 = 70) ∨ (64 = 64) ∨ (64 = 66) ∨ (64 = 71) ∨ (64 = 72) ∨ (64 = 65 ∧ f.toNat = f.toNat) ∨ (64 = 34 ∧ f.toNat = 0) ∨ (64 = 34 ∧ f.toNat = 48) ∨ (64 = 34 ∧ f.toNat = 47) from Or.inr (Or.inr (Or.inr (Or.inr (Or.inl rfl)))))
          have s11 : m10.1 64 0 f.toNat = m.1 50 0 g.toNat := by rw [hm10]; exact wuI_self
          have w12 : m10.1 65 0 f.toNat = m.1 65 0 f.toNat := by rw [hm10]; rfl
          have w13 : m10.1 51 0 g.toNat = m.1 51 0 g.toNat := by rw [hm10]; rfl
          have w14 : m10.1 53 0 g.toNat = m.1 53 0 g.toNat := by rw [hm10]; rfl
          have w15 : m10.1 52 0 g.toNat = m.1 52 0 g.toNat := by rw [hm10]; rfl
          have hRm10 : zRI m10 := by rw [hm10]; exact zRI_wo (by decide) hRm
          have b16 : 0 ≤ m10.1 65 0 f.toNat ∧ m10.1 65 0 f.toNat ≤ c := hGm10.1 65 _ rfl _ _
          have b17 : 0 ≤ m10.1 50 0 g.toNat ∧ m10.1 50 0 g.toNat ≤ 65535 := hGm10.1 50 _ rfl _ _
          refine ww_go 15 (pc' := 112) (L' := [(0, .inr (.inr (.inl (some (34, 0))))), (1, .inl f), (2, .inl g)]) (st' := []) (m' := wuI m10 66 0 (((600 * f) + (m10.1 65 0 f.toNat)).toNat) (m10.1 50 0 g.toNat)) (o := some ((0 < 1) ∧ (0 < 1) ∧ (0 < 1 ∧ 0 ≤ f ∧ f < ((2 : Nat) : Int)) ∧ (0 < 1) ∧ (0 < 1 ∧ 0 ≤ g ∧ g < ((8 : Nat) : Int)) ∧ (0 < 1 ∧ 0 ≤ (600 * f) + (m10.1 65 0 f.toNat) ∧ (600 * f) + (m10.1 65 0 f.toNat) < ((1200 : Nat) : Int)))) rfl (show (0 < 1) ∧ (0 < 1) ∧ (0 < 1 ∧ 0 ≤ f ∧ f < ((2 : Nat) : Int)) ∧ (0 < 1) ∧ (0 < 1 ∧ 0 ≤ g ∧ g < ((8 : Nat) : Int)) ∧ (0 < 1 ∧ 0 ≤ (600 * f) + (m10.1 65 0 f.toNat) ∧ (600 * f) + (m10.1 65 0 f.toNat) < ((1200 : Nat) : Int)) from by omega) ?_
          obtain ⟨m18, hm18⟩ : ∃ zq9 : wm, zq9 = wuI m10 66 0 (((600 * f) + (m10.1 65 0 f.toNat)).toNat) (m10.1 50 0 g.toNat) := ⟨_, rfl⟩
          rw [← hm18]
          have hGm18 : zB c m18 := by rw [hm18]; exact zB_wI rfl (show 0 ≤ m10.1 50 0 g.toNat ∧ m10.1 50 0 g.toNat ≤ 65535 from by omega) hGm10
          have hFm18 : zfr (fun k i j => (k = 67) ∨ (k = 68) ∨ (k = 69) ∨ (k = 70) ∨ (k = 64) ∨ (k = 66) ∨ (k = 71) ∨ (k = 72) ∨ (k = 65 ∧ j = f.toNat) ∨ (k = 34 ∧ j = 0) ∨ (k = 34 ∧ j = 48) ∨ (k = 34 ∧ j = 47)) m0 m18 := by rw [hm18]; exact zfr_wI hFm10 (show (66 = 67) ∨ (66 = 68) ∨ (66 = 69) ∨ (66 = 70) ∨ (66 = 64) ∨ (66 = 66) ∨ (66 = 71) ∨ (66 = 72) ∨ (66 = 65 ∧ (((600 * f) + (m10.1 65 0 f.toNat)).toNat) = f.toNat) ∨ (66 = 34 ∧ (((600 * f) + (m10.1 65 0 f.toNat)).toNat) = 0) ∨ (66 = 34 ∧ (((600 * f) + (m10.1 65 0 f.toNat)).toNat) = 48) ∨ (66 = 34 ∧ (((600 * f) + (m10.1 65 0 f.toNat)).toNat) = 47) from Or.inr (Or.inr (Or.inr (Or.inr (Or.inr (Or.inl rfl))))))
          have s19 : m18.1 66 0 (((600 * f) + (m10.1 65 0 f.toNat)).toNat) = m10.1 50 0 g.toNat := by rw [hm18]; exact wuI_self
          have w20 : m18.1 65 0 f.toNat = m10.1 65 0 f.toNat := by rw [hm18]; rfl
          have w21 : m18.1 51 0 g.toNat = m10.1 51 0 g.toNat := by rw [hm18]; rfl
          have w22 : m18.1 53 0 g.toNat = m10.1 53 0 g.toNat := by rw [hm18]; rfl
          have w23 : m18.1 52 0 g.toNat = m10.1 52 0 g.toNat := by rw [hm18]; rfl
          have hRm18 : zRI m18 := by rw [hm18]; exact zRI_wo (by decide) hRm10
          have b24 : 0 ≤ m18.1 65 0 f.toNat ∧ m18.1 65 0 f.toNat ≤ c := hGm18.1 65 _ rfl _ _
          refine ww_go 8 (pc' := 122) (L' := [(0, .inr (.inr (.inl (some (34, 0))))), (1, .inl f), (2, .inl g)]) (st' := []) (m' := wuI m18 65 0 f.toNat ((m18.1 65 0 f.toNat) + 1)) (o := some ((0 < 1) ∧ (0 < 1 ∧ 0 ≤ f ∧ f < ((2 : Nat) : Int)) ∧ (0 < 1 ∧ 0 ≤ f ∧ f < ((2 : Nat) : Int)))) rfl (show (0 < 1) ∧ (0 < 1 ∧ 0 ≤ f ∧ f < ((2 : Nat) : Int)) ∧ (0 < 1 ∧ 0 ≤ f ∧ f < ((2 : Nat) : Int)) from by omega) ?_
          obtain ⟨m25, hm25⟩ : ∃ zq9 : wm, zq9 = wuI m18 65 0 f.toNat ((m18.1 65 0 f.toNat) + 1) := ⟨_, rfl⟩
          rw [← hm25]
          have hXm25 := zB_mono (c' := (c + 1)) hGm18 (by omega)
          have hGm25 : zB (c + 1) m25 := by rw [hm25]; exact zB_wI rfl (show 0 ≤ (m18.1 65 0 f.toNat) + 1 ∧ (m18.1 65 0 f.toNat) + 1 ≤ (c + 1) from by omega) hXm25
          have hFm25 : zfr (fun k i j => (k = 67) ∨ (k = 68) ∨ (k = 69) ∨ (k = 70) ∨ (k = 64) ∨ (k = 66) ∨ (k = 71) ∨ (k = 72) ∨ (k = 65 ∧ j = f.toNat) ∨ (k = 34 ∧ j = 0) ∨ (k = 34 ∧ j = 48) ∨ (k = 34 ∧ j = 47)) m0 m25 := by rw [hm25]; exact zfr_wI hFm18 (show (65 = 67) ∨ (65 = 68) ∨ (65 = 69) ∨ (65 = 70) ∨ (65 = 64) ∨ (65 = 66) ∨ (65 = 71) ∨ (65 = 72) ∨ (65 = 65 ∧ f.toNat = f.toNat) ∨ (65 = 34 ∧ f.toNat = 0) ∨ (65 = 34 ∧ f.toNat = 48) ∨ (65 = 34 ∧ f.toNat = 47) from Or.inr (Or.inr (Or.inr (Or.inr (Or.inr (Or.inr (Or.inr (Or.inr (Or.inl (⟨rfl, rfl⟩))))))))))
          have s26 : m25.1 65 0 f.toNat = (m18.1 65 0 f.toNat) + 1 := by rw [hm25]; exact wuI_self
          have w27 : m25.1 51 0 g.toNat = m18.1 51 0 g.toNat := by rw [hm25]; rfl
          have w28 : m25.1 53 0 g.toNat = m18.1 53 0 g.toNat := by rw [hm25]; rfl
          have w29 : m25.1 52 0 g.toNat = m18.1 52 0 g.toNat := by rw [hm25]; rfl
          have hRm25 : zRI m25 := by rw [hm25]; exact zRI_wo (by decide) hRm18
          refine ww_go 3 (pc' := 125) (L' := [(0, .inr (.inr (.inl (some (34, 0))))), (1, .inl f), (2, .inl g)]) (st' := [.inl g, .inl f, .inr (.inr (.inl (some (34, 0))))]) (m' := m25) (o := none) rfl trivial ?_
          refine ww_call (vs := [.inr (.inr (.inl (some (34, 0)))), .inl f, .inl g]) (r := []) (p := 0 < 1) rfl rfl rfl rfl (show 0 < 1 from by omega) (zs217 (c := (c + 1)) (by omega) f g hGm25 hRm25 (by omega)) ?_
          rintro _ _ m32 ⟨rfl, rfl, hGm32, hEm32, hRm32, hr31⟩
          have hFm32 : zfr (fun k i j => (k = 67) ∨ (k = 68) ∨ (k = 69) ∨ (k = 70) ∨ (k = 64) ∨ (k = 66) ∨ (k = 71) ∨ (k = 72) ∨ (k = 65 ∧ j = f.toNat) ∨ (k = 34 ∧ j = 0) ∨ (k = 34 ∧ j = 48) ∨ (k = 34 ∧ j = 47)) m0 m32 := zfr_tr hFm25 hEm32 (fun k i j z => Or.elim z (fun z => Or.inl z) (fun z => Or.elim z (fun z => Or.inr (Or.inl z)) (fun z => Or.elim z (fun z => Or.inr (Or.inr (Or.inl z))) (fun z => Or.inr (Or.inr (Or.inr (Or.inl z)))))))
          have w33 : m32.1 65 0 f.toNat = m25.1 65 0 f.toNat := (hEm32 65 0 f.toNat (show ¬ ((65 = 67) ∨ (65 = 68) ∨ (65 = 69) ∨ (65 = 70)) from by omega)).1
          have w34 : m32.1 51 0 g.toNat = m25.1 51 0 g.toNat := (hEm32 51 0 g.toNat (show ¬ ((51 = 67) ∨ (51 = 68) ∨ (51 = 69) ∨ (51 = 70)) from by omega)).1
          have w35 : m32.1 53 0 g.toNat = m25.1 53 0 g.toNat := (hEm32 53 0 g.toNat (show ¬ ((53 = 67) ∨ (53 = 68) ∨ (53 = 69) ∨ (53 = 70)) from by omega)).1
          have w36 : m32.1 52 0 g.toNat = m25.1 52 0 g.toNat := (hEm32 52 0 g.toNat (show ¬ ((52 = 67) ∨ (52 = 68) ∨ (52 = 69) ∨ (52 = 70)) from by omega)).1
          show wW (zK sc) zM234 128 [(0, .inr (.inr (.inl (some (34, 0))))), (1, .inl f), (2, .inl g)] [] _ _ _
          have b37 : 0 ≤ m32.1 50 0 g.toNat ∧ m32.1 50 0 g.toNat ≤ 65535 := hGm32.1 50 _ rfl _ _
          refine ww_go 8 (pc' := 138) (L' := [(0, .inr (.inr (.inl (some (34, 0))))), (1, .inl f), (2, .inl g)]) (st' := [.inl 0, .inl 0, .inl (m32.1 50 0 g.toNat), .inl f, .inr (.inr (.inl (some (34, 0))))]) (m' := m32) (o := some ((0 < 1) ∧ (0 < 1 ∧ 0 ≤ g ∧ g < ((8 : Nat) : Int)))) rfl (show (0 < 1) ∧ (0 < 1 ∧ 0 ≤ g ∧ g < ((8 : Nat) : Int)) from by omega) ?_
          refine ww_call (vs := [.inr (.inr (.inl (some (34, 0)))), .inl f, .inl (m32.1 50 0 g.toNat), .inl 0, .inl 0]) (r := []) (p := 0 < 1) rfl rfl rfl rfl (show 0 < 1 from by omega) (zs225 (c := (c + 1)) (by omega) f (m32.1 50 0 g.toNat) 0 0 hGm32 (by omega)) ?_
          rintro _ _ m40 ⟨rfl, rfl, hGm40, hEm40, hr39⟩
          have hFm40 : zfr (fun k i j => (k = 67) ∨ (k = 68) ∨ (k = 69) ∨ (k = 70) ∨ (k = 64) ∨ (k = 66) ∨ (k = 71) ∨ (k = 72) ∨ (k = 65 ∧ j = f.toNat) ∨ (k = 34 ∧ j = 0) ∨ (k = 34 ∧ j = 48) ∨ (k = 34 ∧ j = 47)) m0 m40 := zfr_tr hFm32 hEm40 (fun k i j z => Or.elim z (fun z => Or.inr (Or.inr (Or.inr (Or.inr (Or.inr (Or.inr (Or.inr (Or.inr (Or.inr (Or.inr (Or.inl z))))))))))) (fun z => Or.elim z (fun z => Or.inr (Or.inr (Or.inr (Or.inr (Or.inr (Or.inr (Or.inr (Or.inr (Or.inr (Or.inr (Or.inr (z)))))))))))) (fun z => Or.elim z (fun z => Or.inr (Or.inr (Or.inr (Or.inr (Or.inr (Or.inr (Or.inl z))))))) (fun z => Or.inr (Or.inr (Or.inr (Or.inr (Or.inr (Or.inr (Or.inr (Or.inl z)))))))))))
          have w41 : m40.1 65 0 f.toNat = m32.1 65 0 f.toNat := (hEm40 65 0 f.toNat (show ¬ ((65 = 34 ∧ f.toNat = 48) ∨ (65 = 34 ∧ f.toNat = 47) ∨ (65 = 71) ∨ (65 = 72)) from by omega)).1
          have w42 : m40.1 51 0 g.toNat = m32.1 51 0 g.toNat := (hEm40 51 0 g.toNat (show ¬ ((51 = 34 ∧ g.toNat = 48) ∨ (51 = 34 ∧ g.toNat = 47) ∨ (51 = 71) ∨ (51 = 72)) from by omega)).1
          have w43 : m40.1 53 0 g.toNat = m32.1 53 0 g.toNat := (hEm40 53 0 g.toNat (show ¬ ((53 = 34 ∧ g.toNat = 48) ∨ (53 = 34 ∧ g.toNat = 47) ∨ (53 = 71) ∨ (53 = 72)) from by omega)).1
          have w44 : m40.1 52 0 g.toNat = m32.1 52 0 g.toNat := (hEm40 52 0 g.toNat (show ¬ ((52 = 34 ∧ g.toNat = 48) ∨ (52 = 34 ∧ g.toNat = 47) ∨ (52 = 71) ∨ (52 = 72)) from by omega)).1
          have hRm40 : zRI m40 := zRI_fr hRm32 hEm40 (fun k j hk => (show ¬ ((k = 34 ∧ j = 48) ∨ (k = 34 ∧ j = 47) ∨ (k = 71) ∨ (k = 72)) from by omega))
          show wW (zK sc) zM234 141 [(0, .inr (.inr (.inl (some (34, 0))))), (1, .inl f), (2, .inl g)] [] _ _ _
          have b45 : 0 ≤ m40.1 50 0 g.toNat ∧ m40.1 50 0 g.toNat ≤ 65535 := hGm40.1 50 _ rfl _ _
          refine ww_go 4 (pc' := 147) (L' := [(0, .inr (.inr (.inl (some (34, 0))))), (1, .inl f), (2, .inl g)]) (st' := [.inl (m40.1 50 0 g.toNat)]) (m' := m40) (o := some ((0 < 1) ∧ (0 < 1 ∧ 0 ≤ g ∧ g < ((8 : Nat) : Int)))) rfl (show (0 < 1) ∧ (0 < 1 ∧ 0 ≤ g ∧ g < ((8 : Nat) : Int)) from by omega) ?_
          exact ww_rI rfl rfl ⟨_, rfl, rfl, zB_mono hGm40 (by omega), hFm40, ⟨hRm40, by omega⟩⟩
        · show wW (zK sc) zM234 62 [(0, .inr (.inr (.inl (some (34, 0))))), (1, .inl f), (2, .inl g)] [] _ _ _
          refine ww_go 2 (pc' := 30) (L' := [(2, .inl (g + (-1))), (0, .inr (.inr (.inl (some (34, 0))))), (1, .inl f)]) (st' := []) (m' := m) (o := none) rfl trivial ?_
          refine ww_sub (L := [(0, .inr (.inr (.inl (some (34, 0))))), (1, .inl f), (2, .inl (g + (-1)))]) ⟨rfl, rfl, rfl, trivial⟩ rfl rfl ?_
          exact (ih _ (by omega)) (g + (-1)) m rfl (zB_mono hGm (by omega)) hFm hRm (by omega)
set_option maxRecDepth 8000 in
/-- Mo.release -/
theorem zs234 {sc : xSc} {n : Nat × Nat} {m0 : wm} {c : Int} (hc : 0 ≤ c ∧ c ≤ 980000) (f : Int) (hG : zB c m0) (hR : zRI m0) (h0 : -2147483648 ≤ f ∧ f ≤ 2147483647) (hl : m0.1 65 0 f.toNat ≤ 599) : wX (zK sc) 234 [.inr (.inr (.inl (some (34, 0)))), .inl f] n m0 (wr (fun vv n1 m1 => ∃ r : Int, vv = some (.inl r) ∧ n = n1 ∧ zB (c + 2) m1 ∧ zfr (fun k i j => (k = 67) ∨ (k = 68) ∨ (k = 69) ∨ (k = 70) ∨ (k = 64) ∨ (k = 66) ∨ (k = 71) ∨ (k = 72) ∨ (k = 65 ∧ j = f.toNat) ∨ (k = 34 ∧ j = 0) ∨ (k = 34 ∧ j = 48) ∨ (k = 34 ∧ j = 47)) m0 m1 ∧ (zRI m1 ∧ (m1.1 65 0 f.toNat ≤ m0.1 65 0 f.toNat + 1)))) := by
  refine wX_of (N := zM234) rfl (Nat.le_of_ble_eq_true rfl) ?_
  show wW (zK sc) zM234 0 [(0, .inr (.inr (.inl (some (34, 0))))), (1, .inl f)] [] n m0 _
  have hF : zfr (fun k i j => (k = 67) ∨ (k = 68) ∨ (k = 69) ∨ (k = 70) ∨ (k = 64) ∨ (k = 66) ∨ (k = 71) ∨ (k = 72) ∨ (k = 65 ∧ j = f.toNat) ∨ (k = 34 ∧ j = 0) ∨ (k = 34 ∧ j = 48) ∨ (k = 34 ∧ j = 47)) m0 m0 := zfr_rf
  have br : 0 ≤ m0.1 65 0 f.toNat ∧ m0.1 65 0 f.toNat ≤ c := hG.1 65 _ rfl _ _
  refine ww_go 4 (pc' := 4) (L' := [(0, .inr (.inr (.inl (some (34, 0))))), (1, .inl f)]) (st' := [.inl 1, .inl 0, .inl f, .inr (.inr (.inl (some (34, 0))))]) (m' := m0) (o := none) rfl trivial ?_
  refine ww_call (vs := [.inl f, .inl 0, .inl 1]) (r := [.inr (.inr (.inl (some (34, 0))))]) (p := True) rfl rfl rfl rfl trivial (zs207 f 0 1 (by omega)) ?_
  rintro _ _ _ ⟨r1, rfl, rfl, rfl, hr2⟩
  show wW (zK sc) zM234 7 [(0, .inr (.inr (.inl (some (34, 0))))), (1, .inl f)] [.inl r1, .inr (.inr (.inl (some (34, 0))))] _ _ _
  refine ww_if (t := 14) rfl rfl (by omega) (fun (h3 : r1 ≠ 0) => ?_) (fun (h3 : ¬ (r1 ≠ 0)) => ?_)
  · show wW (zK sc) zM234 14 [(0, .inr (.inr (.inl (some (34, 0))))), (1, .inl f)] [.inr (.inr (.inl (some (34, 0))))] _ _ _
    refine ww_go 2 (pc' := 16) (L' := [(0, .inr (.inr (.inl (some (34, 0))))), (1, .inl f)]) (st' := [.inl 1, .inl 0, .inr (.inr (.inl (some (34, 0))))]) (m' := m0) (o := none) rfl trivial ?_
    refine ww_call (vs := [.inr (.inr (.inl (some (34, 0)))), .inl 0, .inl 1]) (r := []) (p := 0 < 1) rfl rfl rfl rfl (show 0 < 1 from by omega) (zs196 (c := c) (by omega) 0 1 hG (by omega)) ?_
    rintro _ _ m6 ⟨r4, rfl, rfl, hGm6, hEm6, hr5⟩
    have hFm6 : zfr (fun k i j => (k = 67) ∨ (k = 68) ∨ (k = 69) ∨ (k = 70) ∨ (k = 64) ∨ (k = 66) ∨ (k = 71) ∨ (k = 72) ∨ (k = 65 ∧ j = f.toNat) ∨ (k = 34 ∧ j = 0) ∨ (k = 34 ∧ j = 48) ∨ (k = 34 ∧ j = 47)) m0 m6 := zfr_tr hF hEm6 (fun k i j z => Or.inr (Or.inr (Or.inr (Or.inr (Or.inr (Or.inr (Or.inr (Or.inr (Or.inr (Or.inl z))))))))))
    have w7 : m6.1 65 0 f.toNat = m0.1 65 0 f.toNat := (hEm6 65 0 f.toNat (show ¬ ((65 = 34 ∧ f.toNat = 0)) from by omega)).1
    have hRm6 : zRI m6 := zRI_fr hR hEm6 (fun k j hk => (show ¬ ((k = 34 ∧ j = 0)) from by omega))
    show wW (zK sc) zM234 19 [(0, .inr (.inr (.inl (some (34, 0))))), (1, .inl f)] [.inl r4] _ _ _
    refine ww_if (t := 24) rfl rfl (by omega) (fun (h8 : r4 = 0) => ?_) (fun (h8 : ¬ (r4 = 0)) => ?_)
    · show wW (zK sc) zM234 24 [(0, .inr (.inr (.inl (some (34, 0))))), (1, .inl f)] [] _ _ _
      refine ww_go 6 (pc' := 30) (L' := [(2, .inl ((4 * f) + 3)), (0, .inr (.inr (.inl (some (34, 0))))), (1, .inl f)]) (st' := []) (m' := m6) (o := none) rfl trivial ?_
      refine ww_sub (L := [(0, .inr (.inr (.inl (some (34, 0))))), (1, .inl f), (2, .inl ((4 * f) + 3))]) ⟨rfl, rfl, rfl, trivial⟩ rfl rfl ?_
      exact (zs234_l30 hc f hG hR h0 hl _) ((4 * f) + 3) m6 rfl (zB_mono hGm6 (by omega)) hFm6 hRm6 (by omega)
    · show wW (zK sc) zM234 22 [(0, .inr (.inr (.inl (some (34, 0))))), (1, .inl f)] [] _ _ _
      refine ww_go 1 (pc' := 23) (L' := [(0, .inr (.inr (.inl (some (34, 0))))), (1, .inl f)]) (st' := [.inl 0]) (m' := m6) (o := none) rfl trivial ?_
      exact ww_rI rfl rfl ⟨_, rfl, rfl, zB_mono hGm6 (by omega), hFm6, ⟨hRm6, by omega⟩⟩
  · show wW (zK sc) zM234 10 [(0, .inr (.inr (.inl (some (34, 0))))), (1, .inl f)] [.inr (.inr (.inl (some (34, 0))))] _ _ _
    refine ww_go 3 (pc' := 16) (L' := [(0, .inr (.inr (.inl (some (34, 0))))), (1, .inl f)]) (st' := [.inl 1, .inl 1, .inr (.inr (.inl (some (34, 0))))]) (m' := m0) (o := none) rfl trivial ?_
    refine ww_call (vs := [.inr (.inr (.inl (some (34, 0)))), .inl 1, .inl 1]) (r := []) (p := 0 < 1) rfl rfl rfl rfl (show 0 < 1 from by omega) (zs196 (c := c) (by omega) 1 1 hG (by omega)) ?_
    rintro _ _ m11 ⟨r9, rfl, rfl, hGm11, hEm11, hr10⟩
    have hFm11 : zfr (fun k i j => (k = 67) ∨ (k = 68) ∨ (k = 69) ∨ (k = 70) ∨ (k = 64) ∨ (k = 66) ∨ (k = 71) ∨ (k = 72) ∨ (k = 65 ∧ j = f.toNat) ∨ (k = 34 ∧ j = 0) ∨ (k = 34 ∧ j = 48) ∨ (k = 34 ∧ j = 47)) m0 m11 := zfr_tr hF hEm11 (fun k i j z => Or.inr (Or.inr (Or.inr (Or.inr (Or.inr (Or.inr (Or.inr (Or.inr (Or.inr (Or.inl z))))))))))
    have w12 : m11.1 65 0 f.toNat = m0.1 65 0 f.toNat := (hEm11 65 0 f.toNat (show ¬ ((65 = 34 ∧ f.toNat = 0)) from by omega)).1
    have hRm11 : zRI m11 := zRI_fr hR hEm11 (fun k j hk => (show ¬ ((k = 34 ∧ j = 0)) from by omega))
    show wW (zK sc) zM234 19 [(0, .inr (.inr (.inl (some (34, 0))))), (1, .inl f)] [.inl r9] _ _ _
    refine ww_if (t := 24) rfl rfl (by omega) (fun (h13 : r9 = 0) => ?_) (fun (h13 : ¬ (r9 = 0)) => ?_)
    · show wW (zK sc) zM234 24 [(0, .inr (.inr (.inl (some (34, 0))))), (1, .inl f)] [] _ _ _
      refine ww_go 6 (pc' := 30) (L' := [(2, .inl ((4 * f) + 3)), (0, .inr (.inr (.inl (some (34, 0))))), (1, .inl f)]) (st' := []) (m' := m11) (o := none) rfl trivial ?_
      refine ww_sub (L := [(0, .inr (.inr (.inl (some (34, 0))))), (1, .inl f), (2, .inl ((4 * f) + 3))]) ⟨rfl, rfl, rfl, trivial⟩ rfl rfl ?_
      exact (zs234_l30 hc f hG hR h0 hl _) ((4 * f) + 3) m11 rfl (zB_mono hGm11 (by omega)) hFm11 hRm11 (by omega)
    · show wW (zK sc) zM234 22 [(0, .inr (.inr (.inl (some (34, 0))))), (1, .inl f)] [] _ _ _
      refine ww_go 1 (pc' := 23) (L' := [(0, .inr (.inr (.inl (some (34, 0))))), (1, .inl f)]) (st' := [.inl 0]) (m' := m11) (o := none) rfl trivial ?_
      exact ww_rI rfl rfl ⟨_, rfl, rfl, zB_mono hGm11 (by omega), hFm11, ⟨hRm11, by omega⟩⟩
