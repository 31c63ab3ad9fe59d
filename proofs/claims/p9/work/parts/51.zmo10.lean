set_option maxRecDepth 8000 in
theorem zs183_l165 {sc : xSc} {n : Nat × Nat} {m0 : wm} {c : Int} (hc : 0 ≤ c ∧ c ≤ 1000000) (f : Int) (i : Int) (hG : zB c m0) (hR : zRI m0) (h0 : 0 ≤ f ∧ f ≤ 7 ∧ 1 ≤ i ∧ i ≤ m0.1 52 0 f.toNat ∧ m0.1 51 0 f.toNat = 1 ∧ m0.1 57 0 (7 * f + i).toNat ≠ 1) : ∀ (d : Nat), ∀ (t : Int) (k : Int) (m : wm), (104 - k).toNat = d → zB c m → zfr (fun k i j => (k = 58) ∨ (k = 59) ∨ (k = 60) ∨ (k = 61) ∨ (k = 34 ∧ j = 30) ∨ (k = 54) ∨ (k = 55) ∨ (k = 57) ∨ (k = 56)) m0 m → zRI m → (0 ≤ t ∧ t ≤ 55 ∧ 0 ≤ k ∧ k ≤ 104) → (zHo m0 m (7 * f + i)) →  wW (zK sc) zM183 165 [(0, .inr (.inr (.inl (some (34, 0))))), (1, .inl f), (2, .inl i), (3, .inl (7 * f + i)), (6, .inl t), (7, .inl k)] [] n m (wr (fun vv n1 m1 => ∃ r : Int, vv = some (.inl r) ∧ n = n1 ∧ zB c m1 ∧ zfr (fun k i j => (k = 58) ∨ (k = 59) ∨ (k = 60) ∨ (k = 61) ∨ (k = 34 ∧ j = 30) ∨ (k = 54) ∨ (k = 55) ∨ (k = 57) ∨ (k = 56)) m0 m1 ∧ (zRI m1 ∧ ((r = 0 ∧ m1.1 57 0 = m0.1 57 0) ∨ (r = 1 ∧ zHo m0 m1 (7 * f + i)))))) := by
  intro d
  induction d using Nat.strongRecOn with
  | ind d ih =>
    intro t k m hd hGm hFm hRm hi hh
    have t0 : f.tdiv 4 = f / 4 := Int.tdiv_eq_ediv_of_nonneg (by omega)
    have bc : 0 ≤ m0.1 52 0 f.toNat ∧ m0.1 52 0 f.toNat ≤ 6 := hG.1 52 _ rfl _ _
    refine ww_go 2 (pc' := 169) (L' := [(0, .inr (.inr (.inl (some (34, 0))))), (1, .inl f), (2, .inl i), (3, .inl (7 * f + i)), (6, .inl t), (7, .inl k)]) (st' := [.inl 104, .inl k]) (m' := m) (o := none) rfl trivial ?_
    refine ww_ic (t := 203) rfl rfl (by omega) (fun (h1 : 104 ≤ k) => ?_) (fun (h1 : ¬ (104 ≤ k)) => ?_)
    · show wW (zK sc) zM183 203 [(0, .inr (.inr (.inl (some (34, 0))))), (1, .inl f), (2, .inl i), (3, .inl (7 * f + i)), (6, .inl t), (7, .inl k)] [] _ _ _
      refine ww_go 1 (pc' := 204) (L' := [(0, .inr (.inr (.inl (some (34, 0))))), (1, .inl f), (2, .inl i), (3, .inl (7 * f + i)), (6, .inl t), (7, .inl k)]) (st' := [.inl 1]) (m' := m) (o := none) rfl trivial ?_
      exact ww_rB rfl rfl (by omega) ⟨_, rfl, rfl, zB_mono hGm (by omega), hFm, ⟨hRm, Or.inr ⟨rfl, hh⟩⟩⟩
    · show wW (zK sc) zM183 172 [(0, .inr (.inr (.inl (some (34, 0))))), (1, .inl f), (2, .inl i), (3, .inl (7 * f + i)), (6, .inl t), (7, .inl k)] [] _ _ _
      have b2 : 0 ≤ m.1 56 0 (((104 * t) + k).toNat) ∧ m.1 56 0 (((104 * t) + k).toNat) ≤ 255 := hGm.1 56 _ rfl _ _
      refine ww_go 16 (pc' := 197) (L' := [(0, .inr (.inr (.inl (some (34, 0))))), (1, .inl f), (2, .inl i), (3, .inl (7 * f + i)), (6, .inl t), (7, .inl k)]) (st' := []) (m' := wuI m 56 0 (((104 * (7 * f + i)) + k).toNat) (m.1 56 0 (((104 * t) + k).toNat))) (o := some ((0 < 1) ∧ (0 < 1) ∧ (0 < 1 ∧ 0 ≤ (104 * t) + k ∧ (104 * t) + k < ((5824 : Nat) : Int)) ∧ (0 < 1 ∧ 0 ≤ (104 * (7 * f + i)) + k ∧ (104 * (7 * f + i)) + k < ((5824 : Nat) : Int)))) rfl (show (0 < 1) ∧ (0 < 1) ∧ (0 < 1 ∧ 0 ≤ (104 * t) + k ∧ (104 * t) + k < ((5824 : Nat) : Int)) ∧ (0 < 1 ∧ 0 ≤ (104 * (7 * f + i)) + k ∧ (104 * (7 * f + i)) + k < ((5824 : Nat) : Int)) from by omega) ?_
      obtain ⟨m3, hm3⟩ : ∃ zq9 : wm, zq9 = wuI m 56 0 (((104 * (7 * f + i)) + k).toNat) (m.1 56 0 (((104 * t) + k).toNat)) := ⟨_, rfl⟩
      rw [← hm3]
      have hGm3 : zB c m3 := by rw [hm3]; exact zB_wI rfl (show 0 ≤ m.1 56 0 (((104 * t) + k).toNat) ∧ m.1 56 0 (((104 * t) + k).toNat) ≤ 255 from by omega) hGm
      have hFm3 : zfr (fun k i j => (k = 58) ∨ (k = 59) ∨ (k = 60) ∨ (k = 61) ∨ (k = 34 ∧ j = 30) ∨ (k = 54) ∨ (k = 55) ∨ (k = 57) ∨ (k = 56)) m0 m3 := by rw [hm3]; exact zfr_wI hFm (show (56 = 58) ∨ (56 = 59) ∨ (56 = 60) ∨ (56 = 61) ∨ (56 = 34 ∧ (((104 * (7 * f + i)) + k).toNat) = 30) ∨ (56 = 54) ∨ (56 = 55) ∨ (56 = 57) ∨ (56 = 56) from Or.inr (Or.inr (Or.inr (Or.inr (Or.inr (Or.inr (Or.inr (Or.inr (rfl)))))))))
      have s4 : m3.1 56 0 (((104 * (7 * f + i)) + k).toNat) = m.1 56 0 (((104 * t) + k).toNat) := by rw [hm3]; exact wuI_self
      have w5 : m3.1 57 0 ((7 * f + i).toNat) = m.1 57 0 ((7 * f + i).toNat) := by rw [hm3]; rfl
      have w6 : m3.1 54 0 ((7 * f + i).toNat) = m.1 54 0 ((7 * f + i).toNat) := by rw [hm3]; rfl
      have w7 : m3.1 51 0 f.toNat = m.1 51 0 f.toNat := by rw [hm3]; rfl
      have w8 : m3.1 52 0 f.toNat = m.1 52 0 f.toNat := by rw [hm3]; rfl
      have hRm3 : zRI m3 := by rw [hm3]; exact zRI_w56 (p := f) (i := i) (a := k) hRm (zB_ct hGm) (by omega) (Or.inl (by omega))
      refine ww_go 2 (pc' := 165) (L' := [(7, .inl (k + 1)), (0, .inr (.inr (.inl (some (34, 0))))), (1, .inl f), (2, .inl i), (3, .inl (7 * f + i)), (6, .inl t)]) (st' := []) (m' := m3) (o := none) rfl trivial ?_
      refine ww_sub (L := [(0, .inr (.inr (.inl (some (34, 0))))), (1, .inl f), (2, .inl i), (3, .inl (7 * f + i)), (6, .inl t), (7, .inl (k + 1))]) ⟨rfl, rfl, rfl, rfl, rfl, rfl, trivial⟩ rfl rfl ?_
      exact (ih _ (by omega)) t (k + 1) m3 rfl (zB_mono hGm3 (by omega)) hFm3 hRm3 (by omega) (by rw [hm3]; exact hh)
set_option maxRecDepth 8000 in
theorem zs183_l14 {sc : xSc} {n : Nat × Nat} {m0 : wm} {c : Int} (hc : 0 ≤ c ∧ c ≤ 1000000) (f : Int) (i : Int) (hG : zB c m0) (hR : zRI m0) (h0 : 0 ≤ f ∧ f ≤ 7 ∧ 1 ≤ i ∧ i ≤ m0.1 52 0 f.toNat ∧ m0.1 51 0 f.toNat = 1 ∧ m0.1 57 0 (7 * f + i).toNat ≠ 1) : ∀ (d : Nat), (∀ (g : Int), (8 - g).toNat * 100 + 99 = d → (f / 4 * 4 ≤ g ∧ g ≤ f / 4 * 4 + 4) →  wW (zK sc) zM183 14 [(0, .inr (.inr (.inl (some (34, 0))))), (1, .inl f), (2, .inl i), (3, .inl (7 * f + i)), (4, .inl g)] [] n m0 (wr (fun vv n1 m1 => ∃ r : Int, vv = some (.inl r) ∧ n = n1 ∧ zB c m1 ∧ zfr (fun k i j => (k = 58) ∨ (k = 59) ∨ (k = 60) ∨ (k = 61) ∨ (k = 34 ∧ j = 30) ∨ (k = 54) ∨ (k = 55) ∨ (k = 57) ∨ (k = 56)) m0 m1 ∧ (zRI m1 ∧ ((r = 0 ∧ m1.1 57 0 = m0.1 57 0) ∨ (r = 1 ∧ zHo m0 m1 (7 * f + i))))))) ∧ (∀ (g : Int) (k : Int), (8 - g).toNat * 100 + (7 - k).toNat = d → (f / 4 * 4 ≤ g ∧ g ≤ f / 4 * 4 + 3 ∧ 1 ≤ k ∧ k ≤ 7) →  wW (zK sc) zM183 29 [(0, .inr (.inr (.inl (some (34, 0))))), (1, .inl f), (2, .inl i), (3, .inl (7 * f + i)), (4, .inl g), (5, .inl k)] [] n m0 (wr (fun vv n1 m1 => ∃ r : Int, vv = some (.inl r) ∧ n = n1 ∧ zB c m1 ∧ zfr (fun k i j => (k = 58) ∨ (k = 59) ∨ (k = 60) ∨ (k = 61) ∨ (k = 34 ∧ j = 30) ∨ (k = 54) ∨ (k = 55) ∨ (k = 57) ∨ (k = 56)) m0 m1 ∧ (zRI m1 ∧ ((r = 0 ∧ m1.1 57 0 = m0.1 57 0) ∨ (r = 1 ∧ zHo m0 m1 (7 * f + i))))))) := by
  intro d
  induction d using Nat.strongRecOn with
  | ind d ih =>
    refine ⟨?_, ?_⟩
    · intro g hd hi
      have t0 : f.tdiv 4 = f / 4 := Int.tdiv_eq_ediv_of_nonneg (by omega)
      have bc : 0 ≤ m0.1 52 0 f.toNat ∧ m0.1 52 0 f.toNat ≤ 6 := hG.1 52 _ rfl _ _
      have hF : zfr (fun k i j => (k = 58) ∨ (k = 59) ∨ (k = 60) ∨ (k = 61) ∨ (k = 34 ∧ j = 30) ∨ (k = 54) ∨ (k = 55) ∨ (k = 57) ∨ (k = 56)) m0 m0 := zfr_rf
      have t1 : (0 ≤ f → f.tdiv 4 = f / 4) ∧ (f < 0 → f.tdiv 4 = -((-f) / 4)) := ⟨fun z => Int.tdiv_eq_ediv_of_nonneg z, fun z => wtdiv_neg z⟩
      refine ww_go 8 (pc' := 23) (L' := [(0, .inr (.inr (.inl (some (34, 0))))), (1, .inl f), (2, .inl i), (3, .inl (7 * f + i)), (4, .inl g)]) (st' := [.inl (((f.tdiv 4) * 4) + 4), .inl g]) (m' := m0) (o := some ((-2147483648 ≤ f ∧ f ≤ 2147483647 ∧ 0 < (4 : Int) ∧ (4 : Int) ≤ 2147483647))) rfl (show (-2147483648 ≤ f ∧ f ≤ 2147483647 ∧ 0 < (4 : Int) ∧ (4 : Int) ≤ 2147483647) from by omega) ?_
      refine ww_ic (t := 217) rfl rfl (by omega) (fun (h2 : ((f.tdiv 4) * 4) + 4 ≤ g) => ?_) (fun (h2 : ¬ (((f.tdiv 4) * 4) + 4 ≤ g)) => ?_)
      · show wW (zK sc) zM183 217 [(0, .inr (.inr (.inl (some (34, 0))))), (1, .inl f), (2, .inl i), (3, .inl (7 * f + i)), (4, .inl g)] [] _ _ _
        refine ww_go 1 (pc' := 218) (L' := [(0, .inr (.inr (.inl (some (34, 0))))), (1, .inl f), (2, .inl i), (3, .inl (7 * f + i)), (4, .inl g)]) (st' := [.inl 0]) (m' := m0) (o := none) rfl trivial ?_
        exact ww_rB rfl rfl (by omega) ⟨_, rfl, rfl, zB_mono hG (by omega), hF, ⟨hR, Or.inl ⟨rfl, rfl⟩⟩⟩
      · show wW (zK sc) zM183 26 [(0, .inr (.inr (.inl (some (34, 0))))), (1, .inl f), (2, .inl i), (3, .inl (7 * f + i)), (4, .inl g)] [] _ _ _
        refine ww_go 2 (pc' := 29) (L' := [(5, .inl 1), (0, .inr (.inr (.inl (some (34, 0))))), (1, .inl f), (2, .inl i), (3, .inl (7 * f + i)), (4, .inl g)]) (st' := []) (m' := m0) (o := none) rfl trivial ?_
        refine ww_sub (L := [(0, .inr (.inr (.inl (some (34, 0))))), (1, .inl f), (2, .inl i), (3, .inl (7 * f + i)), (4, .inl g), (5, .inl 1)]) ⟨rfl, rfl, rfl, rfl, rfl, rfl, trivial⟩ rfl rfl ?_
        exact (ih _ (by omega)).2 g 1 rfl (by omega)
    · intro g k hd hi
      have t0 : f.tdiv 4 = f / 4 := Int.tdiv_eq_ediv_of_nonneg (by omega)
      have bc : 0 ≤ m0.1 52 0 f.toNat ∧ m0.1 52 0 f.toNat ≤ 6 := hG.1 52 _ rfl _ _
      have hF : zfr (fun k i j => (k = 58) ∨ (k = 59) ∨ (k = 60) ∨ (k = 61) ∨ (k = 34 ∧ j = 30) ∨ (k = 54) ∨ (k = 55) ∨ (k = 57) ∨ (k = 56)) m0 m0 := zfr_rf
      refine ww_go 2 (pc' := 33) (L' := [(0, .inr (.inr (.inl (some (34, 0))))), (1, .inl f), (2, .inl i), (3, .inl (7 * f + i)), (4, .inl g), (5, .inl k)]) (st' := [.inl 7, .inl k]) (m' := m0) (o := none) rfl trivial ?_
      refine ww_ic (t := 211) rfl rfl (by omega) (fun (h1 : 7 ≤ k) => ?_) (fun (h1 : ¬ (7 ≤ k)) => ?_)
      · show wW (zK sc) zM183 211 [(0, .inr (.inr (.inl (some (34, 0))))), (1, .inl f), (2, .inl i), (3, .inl (7 * f + i)), (4, .inl g), (5, .inl k)] [] _ _ _
        refine ww_go 2 (pc' := 14) (L' := [(4, .inl (g + 1)), (0, .inr (.inr (.inl (some (34, 0))))), (1, .inl f), (2, .inl i), (3, .inl (7 * f + i)), (5, .inl k)]) (st' := []) (m' := m0) (o := none) rfl trivial ?_
        refine ww_sub (L := [(0, .inr (.inr (.inl (some (34, 0))))), (1, .inl f), (2, .inl i), (3, .inl (7 * f + i)), (4, .inl (g + 1))]) ⟨rfl, rfl, rfl, rfl, rfl, trivial⟩ rfl rfl ?_
        exact (ih _ (by omega)).1 (g + 1) rfl (by omega)
      · show wW (zK sc) zM183 36 [(0, .inr (.inr (.inl (some (34, 0))))), (1, .inl f), (2, .inl i), (3, .inl (7 * f + i)), (4, .inl g), (5, .inl k)] [] _ _ _
        refine ww_go 2 (pc' := 39) (L' := [(0, .inr (.inr (.inl (some (34, 0))))), (1, .inl f), (2, .inl i), (3, .inl (7 * f + i)), (4, .inl g), (5, .inl k)]) (st' := [.inl f, .inl g]) (m' := m0) (o := none) rfl trivial ?_
        refine ww_ic (t := 211) rfl rfl (by omega) (fun (h2 : g = f) => ?_) (fun (h2 : ¬ (g = f)) => ?_)
        · show wW (zK sc) zM183 211 [(0, .inr (.inr (.inl (some (34, 0))))), (1, .inl f), (2, .inl i), (3, .inl (7 * f + i)), (4, .inl g), (5, .inl k)] [] _ _ _
          refine ww_go 2 (pc' := 14) (L' := [(4, .inl (g + 1)), (0, .inr (.inr (.inl (some (34, 0))))), (1, .inl f), (2, .inl i), (3, .inl (7 * f + i)), (5, .inl k)]) (st' := []) (m' := m0) (o := none) rfl trivial ?_
          refine ww_sub (L := [(0, .inr (.inr (.inl (some (34, 0))))), (1, .inl f), (2, .inl i), (3, .inl (7 * f + i)), (4, .inl (g + 1))]) ⟨rfl, rfl, rfl, rfl, rfl, trivial⟩ rfl rfl ?_
          exact (ih _ (by omega)).1 (g + 1) rfl (by omega)
        · show wW (zK sc) zM183 42 [(0, .inr (.inr (.inl (some (34, 0))))), (1, .inl f), (2, .inl i), (3, .inl (7 * f + i)), (4, .inl g), (5, .inl k)] [] _ _ _
          have b3 : 0 ≤ m0.1 57 0 (((7 * g) + k).toNat) ∧ m0.1 57 0 (((7 * g) + k).toNat) ≤ 1 := hG.1 57 _ rfl _ _
          refine ww_go 10 (pc' := 59) (L' := [(6, .inl ((7 * g) + k)), (0, .inr (.inr (.inl (some (34, 0))))), (1, .inl f), (2, .inl i), (3, .inl (7 * f + i)), (4, .inl g), (5, .inl k)]) (st' := [.inl (m0.1 57 0 (((7 * g) + k).toNat))]) (m' := m0) (o := some ((0 < 1) ∧ (0 < 1 ∧ 0 ≤ (7 * g) + k ∧ (7 * g) + k < ((56 : Nat) : Int)))) rfl (show (0 < 1) ∧ (0 < 1 ∧ 0 ≤ (7 * g) + k ∧ (7 * g) + k < ((56 : Nat) : Int)) from by omega) ?_
          refine ww_if (t := 205) rfl rfl (by omega) (fun (h4 : m0.1 57 0 (((7 * g) + k).toNat) = 0) => ?_) (fun (h4 : ¬ (m0.1 57 0 (((7 * g) + k).toNat) = 0)) => ?_)
          · show wW (zK sc) zM183 205 [(6, .inl ((7 * g) + k)), (0, .inr (.inr (.inl (some (34, 0))))), (1, .inl f), (2, .inl i), (3, .inl (7 * f + i)), (4, .inl g), (5, .inl k)] [] _ _ _
            refine ww_go 2 (pc' := 29) (L' := [(5, .inl (k + 1)), (6, .inl ((7 * g) + k)), (0, .inr (.inr (.inl (some (34, 0))))), (1, .inl f), (2, .inl i), (3, .inl (7 * f + i)), (4, .inl g)]) (st' := []) (m' := m0) (o := none) rfl trivial ?_
            refine ww_sub (L := [(0, .inr (.inr (.inl (some (34, 0))))), (1, .inl f), (2, .inl i), (3, .inl (7 * f + i)), (4, .inl g), (5, .inl (k + 1))]) ⟨rfl, rfl, rfl, rfl, rfl, rfl, trivial⟩ rfl rfl ?_
            exact (ih _ (by omega)).2 g (k + 1) rfl (by omega)
          · show wW (zK sc) zM183 62 [(6, .inl ((7 * g) + k)), (0, .inr (.inr (.inl (some (34, 0))))), (1, .inl f), (2, .inl i), (3, .inl (7 * f + i)), (4, .inl g), (5, .inl k)] [] _ _ _
            have zh9 := (hR g (by omega) (by omega)).2.1 k (by omega) (by omega) (by omega)
            have bcg : 0 ≤ m0.1 52 0 g.toNat ∧ m0.1 52 0 g.toNat ≤ 6 := hG.1 52 _ rfl _ _
            have b5 : (-1) ≤ m0.1 54 0 (((7 * g) + k).toNat) ∧ m0.1 54 0 (((7 * g) + k).toNat) ≤ 104 := hG.1 54 _ rfl _ _
            refine ww_go 7 (pc' := 72) (L' := [(6, .inl ((7 * g) + k)), (0, .inr (.inr (.inl (some (34, 0))))), (1, .inl f), (2, .inl i), (3, .inl (7 * f + i)), (4, .inl g), (5, .inl k)]) (st' := [.inl i, .inl f, .inr (.inr (.inl (some (34, 0)))), .inl (m0.1 54 0 (((7 * g) + k).toNat))]) (m' := m0) (o := some ((0 < 1) ∧ (0 < 1 ∧ 0 ≤ (7 * g) + k ∧ (7 * g) + k < ((56 : Nat) : Int)))) rfl (show (0 < 1) ∧ (0 < 1 ∧ 0 ≤ (7 * g) + k ∧ (7 * g) + k < ((56 : Nat) : Int)) from by omega) ?_
            refine ww_call (vs := [.inr (.inr (.inl (some (34, 0)))), .inl f, .inl i]) (r := [.inl (m0.1 54 0 (((7 * g) + k).toNat))]) (p := 0 < 1) rfl rfl rfl rfl (show 0 < 1 from by omega) (zs245 (c := c) (by omega) f i _ hG (by omega) (zRI_mf (p := f) hR (by omega) (by omega))) ?_
            rintro _ _ _ ⟨r6, rfl, rfl, rfl, hr7⟩
            show wW (zK sc) zM183 75 [(6, .inl ((7 * g) + k)), (0, .inr (.inr (.inl (some (34, 0))))), (1, .inl f), (2, .inl i), (3, .inl (7 * f + i)), (4, .inl g), (5, .inl k)] [.inl r6, .inl (m0.1 54 0 (((7 * g) + k).toNat))] _ _ _
            refine ww_ic (t := 205) rfl rfl (by omega) (fun (h8 : m0.1 54 0 (((7 * g) + k).toNat) ≠ r6) => ?_) (fun (h8 : ¬ (m0.1 54 0 (((7 * g) + k).toNat) ≠ r6)) => ?_)
            · show wW (zK sc) zM183 205 [(6, .inl ((7 * g) + k)), (0, .inr (.inr (.inl (some (34, 0))))), (1, .inl f), (2, .inl i), (3, .inl (7 * f + i)), (4, .inl g), (5, .inl k)] [] _ _ _
              refine ww_go 2 (pc' := 29) (L' := [(5, .inl (k + 1)), (6, .inl ((7 * g) + k)), (0, .inr (.inr (.inl (some (34, 0))))), (1, .inl f), (2, .inl i), (3, .inl (7 * f + i)), (4, .inl g)]) (st' := []) (m' := m0) (o := none) rfl trivial ?_
              refine ww_sub (L := [(0, .inr (.inr (.inl (some (34, 0))))), (1, .inl f), (2, .inl i), (3, .inl (7 * f + i)), (4, .inl g), (5, .inl (k + 1))]) ⟨rfl, rfl, rfl, rfl, rfl, rfl, trivial⟩ rfl rfl ?_
              exact (ih _ (by omega)).2 g (k + 1) rfl (by omega)
            · show wW (zK sc) zM183 78 [(6, .inl ((7 * g) + k)), (0, .inr (.inr (.inl (some (34, 0))))), (1, .inl f), (2, .inl i), (3, .inl (7 * f + i)), (4, .inl g), (5, .inl k)] [] _ _ _
              refine ww_go 3 (pc' := 83) (L' := [(6, .inl ((7 * g) + k)), (0, .inr (.inr (.inl (some (34, 0))))), (1, .inl f), (2, .inl i), (3, .inl (7 * f + i)), (4, .inl g), (5, .inl k)]) (st' := [.inl k, .inl g, .inr (.inr (.inl (some (34, 0))))]) (m' := m0) (o := none) rfl trivial ?_
              refine ww_call (vs := [.inr (.inr (.inl (some (34, 0)))), .inl g, .inl k]) (r := []) (p := 0 < 1) rfl rfl rfl rfl (show 0 < 1 from by omega) (zs203 (c := c) (by omega) g k _ hG (by omega) (zRI_mf (p := g) hR (by omega) (by omega))) ?_
              rintro _ _ _ ⟨r9, rfl, rfl, rfl, hr10⟩
              show wW (zK sc) zM183 86 [(6, .inl ((7 * g) + k)), (0, .inr (.inr (.inl (some (34, 0))))), (1, .inl f), (2, .inl i), (3, .inl (7 * f + i)), (4, .inl g), (5, .inl k)] [.inr (.inl r9)] _ _ _
              refine ww_go 3 (pc' := 89) (L' := [(6, .inl ((7 * g) + k)), (0, .inr (.inr (.inl (some (34, 0))))), (1, .inl f), (2, .inl i), (3, .inl (7 * f + i)), (4, .inl g), (5, .inl k)]) (st' := [.inl i, .inl f, .inr (.inr (.inl (some (34, 0)))), .inr (.inl r9)]) (m' := m0) (o := none) rfl trivial ?_
              refine ww_call (vs := [.inr (.inr (.inl (some (34, 0)))), .inl f, .inl i]) (r := [.inr (.inl r9)]) (p := 0 < 1) rfl rfl rfl rfl (show 0 < 1 from by omega) (zs203 (c := c) (by omega) f i _ hG (by omega) (zRI_mf (p := f) hR (by omega) (by omega))) ?_
              rintro _ _ _ ⟨r11, rfl, rfl, rfl, hr12⟩
              show wW (zK sc) zM183 92 [(6, .inl ((7 * g) + k)), (0, .inr (.inr (.inl (some (34, 0))))), (1, .inl f), (2, .inl i), (3, .inl (7 * f + i)), (4, .inl g), (5, .inl k)] [.inr (.inl r11), .inr (.inl r9)] _ _ _
              have t13 := wlcmp_rg r9 r11
              refine ww_go 1 (pc' := 93) (L' := [(6, .inl ((7 * g) + k)), (0, .inr (.inr (.inl (some (34, 0))))), (1, .inl f), (2, .inl i), (3, .inl (7 * f + i)), (4, .inl g), (5, .inl k)]) (st' := [.inl (wlcmp r9 r11)]) (m' := m0) (o := none) rfl trivial ?_
              refine ww_if (t := 99) rfl rfl (by omega) (fun (h14 : wlcmp r9 r11 = 0) => ?_) (fun (h14 : ¬ (wlcmp r9 r11 = 0)) => ?_)
              · show wW (zK sc) zM183 99 [(6, .inl ((7 * g) + k)), (0, .inr (.inr (.inl (some (34, 0))))), (1, .inl f), (2, .inl i), (3, .inl (7 * f + i)), (4, .inl g), (5, .inl k)] [] _ _ _
                refine ww_go 2 (pc' := 101) (L' := [(6, .inl ((7 * g) + k)), (0, .inr (.inr (.inl (some (34, 0))))), (1, .inl f), (2, .inl i), (3, .inl (7 * f + i)), (4, .inl g), (5, .inl k)]) (st' := [.inl (7 * f + i), .inr (.inr (.inl (some (34, 0))))]) (m' := m0) (o := none) rfl trivial ?_
                refine ww_call (vs := [.inr (.inr (.inl (some (34, 0)))), .inl (7 * f + i)]) (r := []) (p := 0 < 1) rfl rfl rfl rfl (show 0 < 1 from by omega) (zs199 (c := c) (by omega) (7 * f + i) hG (by omega)) ?_
                rintro _ _ m17 ⟨rfl, rfl, hGm17, hEm17, hr16⟩
                have hFm17 : zfr (fun k i j => (k = 58) ∨ (k = 59) ∨ (k = 60) ∨ (k = 61) ∨ (k = 34 ∧ j = 30) ∨ (k = 54) ∨ (k = 55) ∨ (k = 57) ∨ (k = 56)) m0 m17 := zfr_tr hF hEm17 (fun k i j z => Or.elim z (fun z => Or.inl z) (fun z => Or.elim z (fun z => Or.inr (Or.inl z)) (fun z => Or.elim z (fun z => Or.inr (Or.inr (Or.inl z))) (fun z => Or.elim z (fun z => Or.inr (Or.inr (Or.inr (Or.inl z)))) (fun z => Or.elim z (fun z => Or.inr (Or.inr (Or.inr (Or.inr (Or.inl z))))) (fun z => Or.elim z (fun z => Or.inr (Or.inr (Or.inr (Or.inr (Or.inr (Or.inl z)))))) (fun z => Or.elim z (fun z => Or.inr (Or.inr (Or.inr (Or.inr (Or.inr (Or.inr (Or.inl z))))))) (fun z => Or.inr (Or.inr (Or.inr (Or.inr (Or.inr (Or.inr (Or.inr (Or.inl z)))))))))))))))
                have w18 : m17.1 51 0 f.toNat = m0.1 51 0 f.toNat := (hEm17 51 0 f.toNat (show ¬ ((51 = 58) ∨ (51 = 59) ∨ (51 = 60) ∨ (51 = 61) ∨ (51 = 34 ∧ f.toNat = 30) ∨ (51 = 54) ∨ (51 = 55) ∨ (51 = 57)) from by omega)).1
                have w19 : m17.1 52 0 f.toNat = m0.1 52 0 f.toNat := (hEm17 52 0 f.toNat (show ¬ ((52 = 58) ∨ (52 = 59) ∨ (52 = 60) ∨ (52 = 61) ∨ (52 = 34 ∧ f.toNat = 30) ∨ (52 = 54) ∨ (52 = 55) ∨ (52 = 57)) from by omega)).1
                have hRm17 : zRI m17 := zRI_fg (p := f) (i := i) hR (zB_ct hG) (by omega) (by omega) (by omega) (by omega) hr16 (by funext j; exact (hEm17 51 0 j (show ¬ ((51 = 58) ∨ (51 = 59) ∨ (51 = 60) ∨ (51 = 61) ∨ (51 = 34 ∧ j = 30) ∨ (51 = 54) ∨ (51 = 55) ∨ (51 = 57)) from by omega)).1) (by funext j; exact (hEm17 52 0 j (show ¬ ((52 = 58) ∨ (52 = 59) ∨ (52 = 60) ∨ (52 = 61) ∨ (52 = 34 ∧ j = 30) ∨ (52 = 54) ∨ (52 = 55) ∨ (52 = 57)) from by omega)).1) (by funext j; exact (hEm17 53 0 j (show ¬ ((53 = 58) ∨ (53 = 59) ∨ (53 = 60) ∨ (53 = 61) ∨ (53 = 34 ∧ j = 30) ∨ (53 = 54) ∨ (53 = 55) ∨ (53 = 57)) from by omega)).1) (by funext j; exact (hEm17 56 0 j (show ¬ ((56 = 58) ∨ (56 = 59) ∨ (56 = 60) ∨ (56 = 61) ∨ (56 = 34 ∧ j = 30) ∨ (56 = 54) ∨ (56 = 55) ∨ (56 = 57)) from by omega)).1) (Or.inl (by omega)) (Or.inl (by omega))
                show wW (zK sc) zM183 104 [(6, .inl ((7 * g) + k)), (0, .inr (.inr (.inl (some (34, 0))))), (1, .inl f), (2, .inl i), (3, .inl (7 * f + i)), (4, .inl g), (5, .inl k)] [] _ _ _
                have zf1 := (hr16).1 (7 * f + i) (by omega)
                rw [if_pos rfl] at zf1
                have zf2 := (hr16).2.1 (7 * g + k) (by omega)
                rw [if_neg (by omega)] at zf2
                have b20 : (-1) ≤ m17.1 54 0 (((7 * g) + k).toNat) ∧ m17.1 54 0 (((7 * g) + k).toNat) ≤ 104 := hGm17.1 54 _ rfl _ _
                refine ww_go 8 (pc' := 117) (L' := [(6, .inl ((7 * g) + k)), (0, .inr (.inr (.inl (some (34, 0))))), (1, .inl f), (2, .inl i), (3, .inl (7 * f + i)), (4, .inl g), (5, .inl k)]) (st' := []) (m' := wuI m17 54 0 ((7 * f + i).toNat) (m17.1 54 0 (((7 * g) + k).toNat))) (o := some ((0 < 1) ∧ (0 < 1) ∧ (0 < 1 ∧ 0 ≤ (7 * g) + k ∧ (7 * g) + k < ((56 : Nat) : Int)) ∧ (0 < 1 ∧ 0 ≤ 7 * f + i ∧ 7 * f + i < ((56 : Nat) : Int)))) rfl (show (0 < 1) ∧ (0 < 1) ∧ (0 < 1 ∧ 0 ≤ (7 * g) + k ∧ (7 * g) + k < ((56 : Nat) : Int)) ∧ (0 < 1 ∧ 0 ≤ 7 * f + i ∧ 7 * f + i < ((56 : Nat) : Int)) from by omega) ?_
                obtain ⟨m21, hm21⟩ : ∃ zq9 : wm, zq9 = wuI m17 54 0 ((7 * f + i).toNat) (m17.1 54 0 (((7 * g) + k).toNat)) := ⟨_, rfl⟩
                rw [← hm21]
                have hGm21 : zB c m21 := by rw [hm21]; exact zB_wI rfl (show (-1) ≤ m17.1 54 0 (((7 * g) + k).toNat) ∧ m17.1 54 0 (((7 * g) + k).toNat) ≤ 104 from by omega) hGm17
                have hFm21 : zfr (fun k i j => (k = 58) ∨ (k = 59) ∨ (k = 60) ∨ (k = 61) ∨ (k = 34 ∧ j = 30) ∨ (k = 54) ∨ (k = 55) ∨ (k = 57) ∨ (k = 56)) m0 m21 := by rw [hm21]; exact zfr_wI hFm17 (show (54 = 58) ∨ (54 = 59) ∨ (54 = 60) ∨ (54 = 61) ∨ (54 = 34 ∧ ((7 * f + i).toNat) = 30) ∨ (54 = 54) ∨ (54 = 55) ∨ (54 = 57) ∨ (54 = 56) from Or.inr (Or.inr (Or.inr (Or.inr (Or.inr (Or.inl rfl))))))
                have s22 : m21.1 54 0 ((7 * f + i).toNat) = m17.1 54 0 (((7 * g) + k).toNat) := by rw [hm21]; exact wuI_self
                have w23 : m21.1 57 0 ((7 * f + i).toNat) = m17.1 57 0 ((7 * f + i).toNat) := by rw [hm21]; rfl
                have w24 : m21.1 51 0 f.toNat = m17.1 51 0 f.toNat := by rw [hm21]; rfl
                have w25 : m21.1 52 0 f.toNat = m17.1 52 0 f.toNat := by rw [hm21]; rfl
                have hRm21 : zRI m21 := by rw [hm21]; exact zRI_w54 (p := f) (i := i) hRm17 (zB_ct hGm17) (by omega) (Or.inr ⟨Or.inl (by omega), by omega⟩)
                refine ww_go 7 (pc' := 126) (L' := [(6, .inl ((7 * g) + k)), (0, .inr (.inr (.inl (some (34, 0))))), (1, .inl f), (2, .inl i), (3, .inl (7 * f + i)), (4, .inl g), (5, .inl k)]) (st' := []) (m' := wuI m21 55 0 ((2 * (7 * f + i)).toNat) 1) (o := some ((0 < 1) ∧ (0 < 1 ∧ 0 ≤ 2 * (7 * f + i) ∧ 2 * (7 * f + i) < ((112 : Nat) : Int) ∧ 0 ≤ (1 : Int) ∧ (1 : Int) ≤ 1))) rfl (show (0 < 1) ∧ (0 < 1 ∧ 0 ≤ 2 * (7 * f + i) ∧ 2 * (7 * f + i) < ((112 : Nat) : Int) ∧ 0 ≤ (1 : Int) ∧ (1 : Int) ≤ 1) from by omega) ?_
                obtain ⟨m26, hm26⟩ : ∃ zq9 : wm, zq9 = wuI m21 55 0 ((2 * (7 * f + i)).toNat) 1 := ⟨_, rfl⟩
                rw [← hm26]
                have hGm26 : zB c m26 := by rw [hm26]; exact zB_wI rfl (show 0 ≤ (1 : Int) ∧ (1 : Int) ≤ 1 from by omega) hGm21
                have hFm26 : zfr (fun k i j => (k = 58) ∨ (k = 59) ∨ (k = 60) ∨ (k = 61) ∨ (k = 34 ∧ j = 30) ∨ (k = 54) ∨ (k = 55) ∨ (k = 57) ∨ (k = 56)) m0 m26 := by rw [hm26]; exact zfr_wI hFm21 (show (55 = 58) ∨ (55 = 59) ∨ (55 = 60) ∨ (55 = 61) ∨ (55 = 34 ∧ ((2 * (7 * f + i)).toNat) = 30) ∨ (55 = 54) ∨ (55 = 55) ∨ (55 = 57) ∨ (55 = 56) from Or.inr (Or.inr (Or.inr (Or.inr (Or.inr (Or.inr (Or.inl rfl)))))))
                have s27 : m26.1 55 0 ((2 * (7 * f + i)).toNat) = (1 : Int) := by rw [hm26]; exact wuI_self
                have w28 : m26.1 57 0 ((7 * f + i).toNat) = m21.1 57 0 ((7 * f + i).toNat) := by rw [hm26]; rfl
                have w29 : m26.1 54 0 ((7 * f + i).toNat) = m21.1 54 0 ((7 * f + i).toNat) := by rw [hm26]; rfl
                have w30 : m26.1 51 0 f.toNat = m21.1 51 0 f.toNat := by rw [hm26]; rfl
                have w31 : m26.1 52 0 f.toNat = m21.1 52 0 f.toNat := by rw [hm26]; rfl
                have hRm26 : zRI m26 := by rw [hm26]; exact zRI_w55a (p := f) (i := i) hRm21 (zB_ct hGm21) (by omega) (Or.inl rfl)
                have b32 : (-1) ≤ m26.1 54 0 (((7 * g) + k).toNat) ∧ m26.1 54 0 (((7 * g) + k).toNat) ≤ 104 := hGm26.1 54 _ rfl _ _
                refine ww_go 11 (pc' := 142) (L' := [(6, .inl ((7 * g) + k)), (0, .inr (.inr (.inl (some (34, 0))))), (1, .inl f), (2, .inl i), (3, .inl (7 * f + i)), (4, .inl g), (5, .inl k)]) (st' := [.inl (m26.1 54 0 (((7 * g) + k).toNat)), .inl ((2 * (7 * f + i)) + 1), .inr (.inr (.inl (some (55, 0))))]) (m' := m26) (o := some ((0 < 1) ∧ (0 < 1) ∧ (0 < 1 ∧ 0 ≤ (7 * g) + k ∧ (7 * g) + k < ((56 : Nat) : Int)))) rfl (show (0 < 1) ∧ (0 < 1) ∧ (0 < 1 ∧ 0 ≤ (7 * g) + k ∧ (7 * g) + k < ((56 : Nat) : Int)) from by omega) ?_
                refine ww_call (vs := [.inl (m26.1 54 0 (((7 * g) + k).toNat))]) (r := [.inl ((2 * (7 * f + i)) + 1), .inr (.inr (.inl (some (55, 0))))]) (p := True) rfl rfl rfl rfl trivial (zs182 (m26.1 54 0 (((7 * g) + k).toNat)) (by omega)) ?_
                rintro _ _ _ ⟨r33, rfl, rfl, rfl, hr34⟩
                show wW (zK sc) zM183 145 [(6, .inl ((7 * g) + k)), (0, .inr (.inr (.inl (some (34, 0))))), (1, .inl f), (2, .inl i), (3, .inl (7 * f + i)), (4, .inl g), (5, .inl k)] [.inl r33, .inl ((2 * (7 * f + i)) + 1), .inr (.inr (.inl (some (55, 0))))] _ _ _
                refine ww_go 1 (pc' := 146) (L' := [(6, .inl ((7 * g) + k)), (0, .inr (.inr (.inl (some (34, 0))))), (1, .inl f), (2, .inl i), (3, .inl (7 * f + i)), (4, .inl g), (5, .inl k)]) (st' := [.inl 2, .inl r33, .inl ((2 * (7 * f + i)) + 1), .inr (.inr (.inl (some (55, 0))))]) (m' := m26) (o := none) rfl trivial ?_
                refine ww_ic (t := 153) rfl rfl (by omega) (fun (h35 : r33 ≠ 2) => ?_) (fun (h35 : ¬ (r33 ≠ 2)) => ?_)
                · show wW (zK sc) zM183 153 [(6, .inl ((7 * g) + k)), (0, .inr (.inr (.inl (some (34, 0))))), (1, .inl f), (2, .inl i), (3, .inl (7 * f + i)), (4, .inl g), (5, .inl k)] [.inl ((2 * (7 * f + i)) + 1), .inr (.inr (.inl (some (55, 0))))] _ _ _
                  refine ww_go 2 (pc' := 155) (L' := [(6, .inl ((7 * g) + k)), (0, .inr (.inr (.inl (some (34, 0))))), (1, .inl f), (2, .inl i), (3, .inl (7 * f + i)), (4, .inl g), (5, .inl k)]) (st' := []) (m' := wuI m26 55 0 (((2 * (7 * f + i)) + 1).toNat) 0) (o := some ((0 < 1 ∧ 0 ≤ (2 * (7 * f + i)) + 1 ∧ (2 * (7 * f + i)) + 1 < ((112 : Nat) : Int) ∧ 0 ≤ (0 : Int) ∧ (0 : Int) ≤ 1))) rfl (show (0 < 1 ∧ 0 ≤ (2 * (7 * f + i)) + 1 ∧ (2 * (7 * f + i)) + 1 < ((112 : Nat) : Int) ∧ 0 ≤ (0 : Int) ∧ (0 : Int) ≤ 1) from by omega) ?_
                  obtain ⟨m36, hm36⟩ : ∃ zq9 : wm, zq9 = wuI m26 55 0 (((2 * (7 * f + i)) + 1).toNat) 0 := ⟨_, rfl⟩
                  rw [← hm36]
                  have hGm36 : zB c m36 := by rw [hm36]; exact zB_wI rfl (show 0 ≤ (0 : Int) ∧ (0 : Int) ≤ 1 from by omega) hGm26
                  have hFm36 : zfr (fun k i j => (k = 58) ∨ (k = 59) ∨ (k = 60) ∨ (k = 61) ∨ (k = 34 ∧ j = 30) ∨ (k = 54) ∨ (k = 55) ∨ (k = 57) ∨ (k = 56)) m0 m36 := by rw [hm36]; exact zfr_wI hFm26 (show (55 = 58) ∨ (55 = 59) ∨ (55 = 60) ∨ (55 = 61) ∨ (55 = 34 ∧ (((2 * (7 * f + i)) + 1).toNat) = 30) ∨ (55 = 54) ∨ (55 = 55) ∨ (55 = 57) ∨ (55 = 56) from Or.inr (Or.inr (Or.inr (Or.inr (Or.inr (Or.inr (Or.inl rfl)))))))
                  have s37 : m36.1 55 0 (((2 * (7 * f + i)) + 1).toNat) = (0 : Int) := by rw [hm36]; exact wuI_self
                  have w38 : m36.1 57 0 ((7 * f + i).toNat) = m26.1 57 0 ((7 * f + i).toNat) := by rw [hm36]; rfl
                  have w39 : m36.1 54 0 ((7 * f + i).toNat) = m26.1 54 0 ((7 * f + i).toNat) := by rw [hm36]; rfl
                  have w40 : m36.1 51 0 f.toNat = m26.1 51 0 f.toNat := by rw [hm36]; rfl
                  have w41 : m36.1 52 0 f.toNat = m26.1 52 0 f.toNat := by rw [hm36]; rfl
                  have hRm36 : zRI m36 := by rw [hm36]; exact zRI_w55 (p := f) (i := i) (b := 1) hRm26 (zB_ct hGm26) (by omega) (Or.inr ⟨Or.inl (by omega), by omega⟩)
                  have w42 : m36.1 55 0 (2 * (7 * f + i)).toNat = m26.1 55 0 (2 * (7 * f + i)).toNat := by rw [hm36]; exact wuI_nj (by omega)
                  refine ww_go 5 (pc' := 162) (L' := [(6, .inl ((7 * g) + k)), (0, .inr (.inr (.inl (some (34, 0))))), (1, .inl f), (2, .inl i), (3, .inl (7 * f + i)), (4, .inl g), (5, .inl k)]) (st' := []) (m' := wuI m36 57 0 ((7 * f + i).toNat) 1) (o := some ((0 < 1) ∧ (0 < 1 ∧ 0 ≤ 7 * f + i ∧ 7 * f + i < ((56 : Nat) : Int) ∧ 0 ≤ (1 : Int) ∧ (1 : Int) ≤ 1))) rfl (show (0 < 1) ∧ (0 < 1 ∧ 0 ≤ 7 * f + i ∧ 7 * f + i < ((56 : Nat) : Int) ∧ 0 ≤ (1 : Int) ∧ (1 : Int) ≤ 1) from by omega) ?_
                  obtain ⟨m43, hm43⟩ : ∃ zq9 : wm, zq9 = wuI m36 57 0 ((7 * f + i).toNat) 1 := ⟨_, rfl⟩
                  rw [← hm43]
                  have hGm43 : zB c m43 := by rw [hm43]; exact zB_wI rfl (show 0 ≤ (1 : Int) ∧ (1 : Int) ≤ 1 from by omega) hGm36
                  have hFm43 : zfr (fun k i j => (k = 58) ∨ (k = 59) ∨ (k = 60) ∨ (k = 61) ∨ (k = 34 ∧ j = 30) ∨ (k = 54) ∨ (k = 55) ∨ (k = 57) ∨ (k = 56)) m0 m43 := by rw [hm43]; exact zfr_wI hFm36 (show (57 = 58) ∨ (57 = 59) ∨ (57 = 60) ∨ (57 = 61) ∨ (57 = 34 ∧ ((7 * f + i).toNat) = 30) ∨ (57 = 54) ∨ (57 = 55) ∨ (57 = 57) ∨ (57 = 56) from Or.inr (Or.inr (Or.inr (Or.inr (Or.inr (Or.inr (Or.inr (Or.inl rfl))))))))
                  have s44 : m43.1 57 0 ((7 * f + i).toNat) = (1 : Int) := by rw [hm43]; exact wuI_self
                  have w45 : m43.1 54 0 ((7 * f + i).toNat) = m36.1 54 0 ((7 * f + i).toNat) := by rw [hm43]; rfl
                  have w46 : m43.1 51 0 f.toNat = m36.1 51 0 f.toNat := by rw [hm43]; rfl
                  have w47 : m43.1 52 0 f.toNat = m36.1 52 0 f.toNat := by rw [hm43]; rfl
                  have hRm43 : zRI m43 := by rw [hm43]; exact zRI_w57 (p := f) (i := i) hRm36 (by omega) (by omega)
                  have hho : zHo m0 m43 (7 * f + i) := fun j hj => by
                    rw [hm43, wuI_at (by omega) hj]
                    rw [hm36]
                    show (if j = 7 * f + i then (1 : Int) else m26.1 57 0 j.toNat) = _
                    rw [hm26]
                    show (if j = 7 * f + i then (1 : Int) else m21.1 57 0 j.toNat) = _
                    rw [hm21]
                    show (if j = 7 * f + i then (1 : Int) else m17.1 57 0 j.toNat) = _
                    rw [(hr16).1 j hj]
                    by_cases z : j = 7 * f + i
                    · rw [if_pos z, if_pos z]
                    · rw [if_neg z, if_neg z, if_neg z]
                  refine ww_go 2 (pc' := 165) (L' := [(7, .inl 0), (6, .inl ((7 * g) + k)), (0, .inr (.inr (.inl (some (34, 0))))), (1, .inl f), (2, .inl i), (3, .inl (7 * f + i)), (4, .inl g), (5, .inl k)]) (st' := []) (m' := m43) (o := none) rfl trivial ?_
                  refine ww_sub (L := [(0, .inr (.inr (.inl (some (34, 0))))), (1, .inl f), (2, .inl i), (3, .inl (7 * f + i)), (6, .inl ((7 * g) + k)), (7, .inl 0)]) ⟨rfl, rfl, rfl, rfl, rfl, rfl, trivial⟩ rfl rfl ?_
                  exact (zs183_l165 hc f i hG hR h0 _) ((7 * g) + k) 0 m43 rfl (zB_mono hGm43 (by omega)) hFm43 hRm43 (by omega) (by exact hho)
                · show wW (zK sc) zM183 149 [(6, .inl ((7 * g) + k)), (0, .inr (.inr (.inl (some (34, 0))))), (1, .inl f), (2, .inl i), (3, .inl (7 * f + i)), (4, .inl g), (5, .inl k)] [.inl ((2 * (7 * f + i)) + 1), .inr (.inr (.inl (some (55, 0))))] _ _ _
                  refine ww_go 3 (pc' := 155) (L' := [(6, .inl ((7 * g) + k)), (0, .inr (.inr (.inl (some (34, 0))))), (1, .inl f), (2, .inl i), (3, .inl (7 * f + i)), (4, .inl g), (5, .inl k)]) (st' := []) (m' := wuI m26 55 0 (((2 * (7 * f + i)) + 1).toNat) 1) (o := some ((0 < 1 ∧ 0 ≤ (2 * (7 * f + i)) + 1 ∧ (2 * (7 * f + i)) + 1 < ((112 : Nat) : Int) ∧ 0 ≤ (1 : Int) ∧ (1 : Int) ≤ 1))) rfl (show (0 < 1 ∧ 0 ≤ (2 * (7 * f + i)) + 1 ∧ (2 * (7 * f + i)) + 1 < ((112 : Nat) : Int) ∧ 0 ≤ (1 : Int) ∧ (1 : Int) ≤ 1) from by omega) ?_
                  obtain ⟨m48, hm48⟩ : ∃ zq9 : wm, zq9 = wuI m26 55 0 (((2 * (7 * f + i)) + 1).toNat) 1 := ⟨_, rfl⟩
                  rw [← hm48]
                  have hGm48 : zB c m48 := by rw [hm48]; exact zB_wI rfl (show 0 ≤ (1 : Int) ∧ (1 : Int) ≤ 1 from by omega) hGm26
                  have hFm48 : zfr (fun k i j => (k = 58) ∨ (k = 59) ∨ (k = 60) ∨ (k = 61) ∨ (k = 34 ∧ j = 30) ∨ (k = 54) ∨ (k = 55) ∨ (k = 57) ∨ (k = 56)) m0 m48 := by rw [hm48]; exact zfr_wI hFm26 (show (55 = 58) ∨ (55 = 59) ∨ (55 = 60) ∨ (55 = 61) ∨ (55 = 34 ∧ (((2 * (7 * f + i)) + 1).toNat) = 30) ∨ (55 = 54) ∨ (55 = 55) ∨ (55 = 57) ∨ (55 = 56) from Or.inr (Or.inr (Or.inr (Or.inr (Or.inr (Or.inr (Or.inl rfl)))))))
                  have s49 : m48.1 55 0 (((2 * (7 * f + i)) + 1).toNat) = (1 : Int) := by rw [hm48]; exact wuI_self
                  have w50 : m48.1 57 0 ((7 * f + i).toNat) = m26.1 57 0 ((7 * f + i).toNat) := by rw [hm48]; rfl
                  have w51 : m48.1 54 0 ((7 * f + i).toNat) = m26.1 54 0 ((7 * f + i).toNat) := by rw [hm48]; rfl
                  have w52 : m48.1 51 0 f.toNat = m26.1 51 0 f.toNat := by rw [hm48]; rfl
                  have w53 : m48.1 52 0 f.toNat = m26.1 52 0 f.toNat := by rw [hm48]; rfl
                  have hRm48 : zRI m48 := by rw [hm48]; exact zRI_w55 (p := f) (i := i) (b := 1) hRm26 (zB_ct hGm26) (by omega) (Or.inr ⟨Or.inl (by omega), by omega⟩)
                  have w54 : m48.1 55 0 (2 * (7 * f + i)).toNat = m26.1 55 0 (2 * (7 * f + i)).toNat := by rw [hm48]; exact wuI_nj (by omega)
                  refine ww_go 5 (pc' := 162) (L' := [(6, .inl ((7 * g) + k)), (0, .inr (.inr (.inl (some (34, 0))))), (1, .inl f), (2, .inl i), (3, .inl (7 * f + i)), (4, .inl g), (5, .inl k)]) (st' := []) (m' := wuI m48 57 0 ((7 * f + i).toNat) 1) (o := some ((0 < 1) ∧ (0 < 1 ∧ 0 ≤ 7 * f + i ∧ 7 * f + i < ((56 : Nat) : Int) ∧ 0 ≤ (1 : Int) ∧ (1 : Int) ≤ 1))) rfl (show (0 < 1) ∧ (0 < 1 ∧ 0 ≤ 7 * f + i ∧ 7 * f + i < ((56 : Nat) : Int) ∧ 0 ≤ (1 : Int) ∧ (1 : Int) ≤ 1) from by omega) ?_
                  obtain ⟨m55, hm55⟩ : ∃ zq9 : wm, zq9 = wuI m48 57 0 ((7 * f + i).toNat) 1 := ⟨_, rfl⟩
                  rw [← hm55]
                  have hGm55 : zB c m55 := by rw [hm55]; exact zB_wI rfl (show 0 ≤ (1 : Int) ∧ (1 : Int) ≤ 1 from by omega) hGm48
                  have hFm55 : zfr (fun k i j => (k = 58) ∨ (k = 59) ∨ (k = 60) ∨ (k = 61) ∨ (k = 34 ∧ j = 30) ∨ (k = 54) ∨ (k = 55) ∨ (k = 57) ∨ (k = 56)) m0 m55 := by rw [hm55]; exact zfr_wI hFm48 (show (57 = 58) ∨ (57 = 59) ∨ (57 = 60) ∨ (57 = 61) ∨ (57 = 34 ∧ ((7 * f + i).toNat) = 30) ∨ (57 = 54) ∨ (57 = 55) ∨ (57 = 57) ∨ (57 = 56) from Or.inr (Or.inr (Or.inr (Or.inr (Or.inr (Or.inr (Or.inr (Or.inl rfl))))))))
                  have s56 : m55.1 57 0 ((7 * f + i).toNat) = (1 : Int) := by rw [hm55]; exact wuI_self
                  have w57 : m55.1 54 0 ((7 * f + i).toNat) = m48.1 54 0 ((7 * f + i).toNat) := by rw [hm55]; rfl
                  have w58 : m55.1 51 0 f.toNat = m48.1 51 0 f.toNat := by rw [hm55]; rfl
                  have w59 : m55.1 52 0 f.toNat = m48.1 52 0 f.toNat := by rw [hm55]; rfl
                  have hRm55 : zRI m55 := by rw [hm55]; exact zRI_w57 (p := f) (i := i) hRm48 (by omega) (by omega)
                  have hho : zHo m0 m55 (7 * f + i) := fun j hj => by
                    rw [hm55, wuI_at (by omega) hj]
                    rw [hm48]
                    show (if j = 7 * f + i then (1 : Int) else m26.1 57 0 j.toNat) = _
                    rw [hm26]
                    show (if j = 7 * f + i then (1 : Int) else m21.1 57 0 j.toNat) = _
                    rw [hm21]
                    show (if j = 7 * f + i then (1 : Int) else m17.1 57 0 j.toNat) = _
                    rw [(hr16).1 j hj]
                    by_cases z : j = 7 * f + i
                    · rw [if_pos z, if_pos z]
                    · rw [if_neg z, if_neg z, if_neg z]
                  refine ww_go 2 (pc' := 165) (L' := [(7, .inl 0), (6, .inl ((7 * g) + k)), (0, .inr (.inr (.inl (some (34, 0))))), (1, .inl f), (2, .inl i), (3, .inl (7 * f + i)), (4, .inl g), (5, .inl k)]) (st' := []) (m' := m55) (o := none) rfl trivial ?_
                  refine ww_sub (L := [(0, .inr (.inr (.inl (some (34, 0))))), (1, .inl f), (2, .inl i), (3, .inl (7 * f + i)), (6, .inl ((7 * g) + k)), (7, .inl 0)]) ⟨rfl, rfl, rfl, rfl, rfl, rfl, trivial⟩ rfl rfl ?_
                  exact (zs183_l165 hc f i hG hR h0 _) ((7 * g) + k) 0 m55 rfl (zB_mono hGm55 (by omega)) hFm55 hRm55 (by omega) (by exact hho)
              · show wW (zK sc) zM183 96 [(6, .inl ((7 * g) + k)), (0, .inr (.inr (.inl (some (34, 0))))), (1, .inl f), (2, .inl i), (3, .inl (7 * f + i)), (4, .inl g), (5, .inl k)] [] _ _ _
                refine ww_go 3 (pc' := 29) (L' := [(5, .inl (k + 1)), (6, .inl ((7 * g) + k)), (0, .inr (.inr (.inl (some (34, 0))))), (1, .inl f), (2, .inl i), (3, .inl (7 * f + i)), (4, .inl g)]) (st' := []) (m' := m0) (o := none) rfl trivial ?_
                refine ww_sub (L := [(0, .inr (.inr (.inl (some (34, 0))))), (1, .inl f), (2, .inl i), (3, .inl (7 * f + i)), (4, .inl g), (5, .inl (k + 1))]) ⟨rfl, rfl, rfl, rfl, rfl, rfl, trivial⟩ rfl rfl ?_
                exact (ih _ (by omega)).2 g (k + 1) rfl (by omega)
set_option maxRecDepth 8000 in
/-- Mo.borrows -/
theorem zs183 {sc : xSc} {n : Nat × Nat} {m0 : wm} {c : Int} (hc : 0 ≤ c ∧ c ≤ 1000000) (f : Int) (i : Int) (hG : zB c m0) (hR : zRI m0) (h0 : 0 ≤ f ∧ f ≤ 7 ∧ 1 ≤ i ∧ i ≤ m0.1 52 0 f.toNat ∧ m0.1 51 0 f.toNat = 1 ∧ m0.1 57 0 (7 * f + i).toNat ≠ 1) : wX (zK sc) 183 [.inr (.inr (.inl (some (34, 0)))), .inl f, .inl i] n m0 (wr (fun vv n1 m1 => ∃ r : Int, vv = some (.inl r) ∧ n = n1 ∧ zB c m1 ∧ zfr (fun k i j => (k = 58) ∨ (k = 59) ∨ (k = 60) ∨ (k = 61) ∨ (k = 34 ∧ j = 30) ∨ (k = 54) ∨ (k = 55) ∨ (k = 57) ∨ (k = 56)) m0 m1 ∧ (zRI m1 ∧ ((r = 0 ∧ m1.1 57 0 = m0.1 57 0) ∨ (r = 1 ∧ zHo m0 m1 (7 * f + i)))))) := by
  refine wX_of (N := zM183) rfl (Nat.le_of_ble_eq_true rfl) ?_
  show wW (zK sc) zM183 0 [(0, .inr (.inr (.inl (some (34, 0))))), (1, .inl f), (2, .inl i)] [] n m0 _
  have hF : zfr (fun k i j => (k = 58) ∨ (k = 59) ∨ (k = 60) ∨ (k = 61) ∨ (k = 34 ∧ j = 30) ∨ (k = 54) ∨ (k = 55) ∨ (k = 57) ∨ (k = 56)) m0 m0 := zfr_rf
  have t0 : f.tdiv 4 = f / 4 := Int.tdiv_eq_ediv_of_nonneg (by omega)
  have bc : 0 ≤ m0.1 52 0 f.toNat ∧ m0.1 52 0 f.toNat ≤ 6 := hG.1 52 _ rfl _ _
  have t1 : (0 ≤ f → f.tdiv 4 = f / 4) ∧ (f < 0 → f.tdiv 4 = -((-f) / 4)) := ⟨fun z => Int.tdiv_eq_ediv_of_nonneg z, fun z => wtdiv_neg z⟩
  refine ww_go 12 (pc' := 14) (L' := [(4, .inl ((f.tdiv 4) * 4)), (3, .inl ((7 * f) + i)), (0, .inr (.inr (.inl (some (34, 0))))), (1, .inl f), (2, .inl i)]) (st' := []) (m' := m0) (o := some ((-2147483648 ≤ f ∧ f ≤ 2147483647 ∧ 0 < (4 : Int) ∧ (4 : Int) ≤ 2147483647))) rfl (show (-2147483648 ≤ f ∧ f ≤ 2147483647 ∧ 0 < (4 : Int) ∧ (4 : Int) ≤ 2147483647) from by omega) ?_
  refine ww_sub (L := [(0, .inr (.inr (.inl (some (34, 0))))), (1, .inl f), (2, .inl i), (3, .inl ((7 * f) + i)), (4, .inl ((f.tdiv 4) * 4))]) ⟨rfl, rfl, rfl, rfl, rfl, trivial⟩ rfl rfl ?_
  exact (zs183_l14 hc f i hG hR h0 _).1 ((f.tdiv 4) * 4) rfl (by omega)
set_option maxRecDepth 8000 in
theorem zs243_l2 {sc : xSc} {n : Nat × Nat} {m0 : wm} {c : Int} (hc : 0 ≤ c ∧ c ≤ 1000000) (f : Int) (hG : zB c m0) (hR : zRI m0) (h0 : 0 ≤ f ∧ f ≤ 1) : ∀ (d : Nat), (∀ (w : Int) (m : wm), zcn m * 1000 + w.toNat * 999 = d → zB c m → zfr (fun k i j => (k = 58) ∨ (k = 59) ∨ (k = 60) ∨ (k = 61) ∨ (k = 34 ∧ j = 30) ∨ (k = 54) ∨ (k = 55) ∨ (k = 57) ∨ (k = 56)) m0 m → zRI m → (0 ≤ w ∧ w ≤ 1) →  wW (zK sc) zM243 2 [(0, .inr (.inr (.inl (some (34, 0))))), (1, .inl f), (2, .inl w)] [] n m (wr (fun vv n1 m1 => vv = none ∧ n = n1 ∧ zB c m1 ∧ zfr (fun k i j => (k = 58) ∨ (k = 59) ∨ (k = 60) ∨ (k = 61) ∨ (k = 34 ∧ j = 30) ∨ (k = 54) ∨ (k = 55) ∨ (k = 57) ∨ (k = 56)) m0 m1 ∧ (zRI m1 ∧ (True))))) ∧ (∀ (w : Int) (g : Int) (Z0 : Nat) (m : wm), Z0 * 1000 + (4 * f + 4 - g).toNat * 100 + 99 = d → zB c m → zfr (fun k i j => (k = 58) ∨ (k = 59) ∨ (k = 60) ∨ (k = 61) ∨ (k = 34 ∧ j = 30) ∨ (k = 54) ∨ (k = 55) ∨ (k = 57) ∨ (k = 56)) m0 m → zRI m → (0 ≤ w ∧ w ≤ 1 ∧ 4 * f ≤ g ∧ g ≤ 4 * f + 4) → (zcn m ≤ Z0 ∧ (w = 1 → zcn m < Z0)) →  wW (zK sc) zM243 12 [(0, .inr (.inr (.inl (some (34, 0))))), (1, .inl f), (2, .inl w), (3, .inl g)] [] n m (wr (fun vv n1 m1 => vv = none ∧ n = n1 ∧ zB c m1 ∧ zfr (fun k i j => (k = 58) ∨ (k = 59) ∨ (k = 60) ∨ (k = 61) ∨ (k = 34 ∧ j = 30) ∨ (k = 54) ∨ (k = 55) ∨ (k = 57) ∨ (k = 56)) m0 m1 ∧ (zRI m1 ∧ (True))))) ∧ (∀ (w : Int) (g : Int) (i : Int) (Z0 : Nat) (m : wm), Z0 * 1000 + (4 * f + 4 - g).toNat * 100 + (7 - i).toNat = d → zB c m → zfr (fun k i j => (k = 58) ∨ (k = 59) ∨ (k = 60) ∨ (k = 61) ∨ (k = 34 ∧ j = 30) ∨ (k = 54) ∨ (k = 55) ∨ (k = 57) ∨ (k = 56)) m0 m → zRI m → (0 ≤ w ∧ w ≤ 1 ∧ 4 * f ≤ g ∧ g ≤ 4 * f + 3 ∧ 1 ≤ i ∧ i ≤ 7) → (zcn m ≤ Z0 ∧ (w = 1 → zcn m < Z0)) →  wW (zK sc) zM243 24 [(0, .inr (.inr (.inl (some (34, 0))))), (1, .inl f), (2, .inl w), (3, .inl g), (4, .inl i)] [] n m (wr (fun vv n1 m1 => vv = none ∧ n = n1 ∧ zB c m1 ∧ zfr (fun k i j => (k = 58) ∨ (k = 59) ∨ (k = 60) ∨ (k = 61) ∨ (k = 34 ∧ j = 30) ∨ (k = 54) ∨ (k = 55) ∨ (k = 57) ∨ (k = 56)) m0 m1 ∧ (zRI m1 ∧ (True))))) := by
  intro d
  induction d using Nat.strongRecOn with
  | ind d ih =>
    refine ⟨?_, ?_, ?_⟩
    · intro w m hd hGm hFm hRm hi
      refine ww_go 1 (pc' := 3) (L' := [(0, .inr (.inr (.inl (some (34, 0))))), (1, .inl f), (2, .inl w)]) (st' := [.inl w]) (m' := m) (o := none) rfl trivial ?_
      refine ww_if (t := 94) rfl rfl (by omega) (fun (h1 : w = 0) => ?_) (fun (h1 : ¬ (w = 0)) => ?_)
      · show wW (zK sc) zM243 94 [(0, .inr (.inr (.inl (some (34, 0))))), (1, .inl f), (2, .inl w)] [] _ _ _
        exact ww_rV rfl rfl ⟨rfl, rfl, zB_mono hGm (by omega), hFm, ⟨hRm, by trivial⟩⟩
      · show wW (zK sc) zM243 6 [(0, .inr (.inr (.inl (some (34, 0))))), (1, .inl f), (2, .inl w)] [] _ _ _
        refine ww_go 6 (pc' := 12) (L' := [(3, .inl (4 * f)), (2, .inl 0), (0, .inr (.inr (.inl (some (34, 0))))), (1, .inl f)]) (st' := []) (m' := m) (o := none) rfl trivial ?_
        refine ww_sub (L := [(0, .inr (.inr (.inl (some (34, 0))))), (1, .inl f), (2, .inl 0), (3, .inl (4 * f))]) ⟨rfl, rfl, rfl, rfl, trivial⟩ rfl rfl ?_
        exact (ih _ (by omega)).2.1 0 (4 * f) (zcn m) m rfl (zB_mono hGm (by omega)) hFm hRm (by omega) (by omega)
    · intro w g Z0 m hd hGm hFm hRm hi hz
      refine ww_go 6 (pc' := 18) (L' := [(0, .inr (.inr (.inl (some (34, 0))))), (1, .inl f), (2, .inl w), (3, .inl g)]) (st' := [.inl ((4 * f) + 4), .inl g]) (m' := m) (o := none) rfl trivial ?_
      refine ww_ic (t := 91) rfl rfl (by omega) (fun (h1 : (4 * f) + 4 ≤ g) => ?_) (fun (h1 : ¬ ((4 * f) + 4 ≤ g)) => ?_)
      · show wW (zK sc) zM243 91 [(0, .inr (.inr (.inl (some (34, 0))))), (1, .inl f), (2, .inl w), (3, .inl g)] [] _ _ _
        refine ww_go 1 (pc' := 2) (L' := [(0, .inr (.inr (.inl (some (34, 0))))), (1, .inl f), (2, .inl w), (3, .inl g)]) (st' := []) (m' := m) (o := none) rfl trivial ?_
        refine ww_sub (L := [(0, .inr (.inr (.inl (some (34, 0))))), (1, .inl f), (2, .inl w)]) ⟨rfl, rfl, rfl, trivial⟩ rfl rfl ?_
        exact (ih _ (by omega)).1 w m rfl (zB_mono hGm (by omega)) hFm hRm (by omega)
      · show wW (zK sc) zM243 21 [(0, .inr (.inr (.inl (some (34, 0))))), (1, .inl f), (2, .inl w), (3, .inl g)] [] _ _ _
        refine ww_go 2 (pc' := 24) (L' := [(4, .inl 1), (0, .inr (.inr (.inl (some (34, 0))))), (1, .inl f), (2, .inl w), (3, .inl g)]) (st' := []) (m' := m) (o := none) rfl trivial ?_
        refine ww_sub (L := [(0, .inr (.inr (.inl (some (34, 0))))), (1, .inl f), (2, .inl w), (3, .inl g), (4, .inl 1)]) ⟨rfl, rfl, rfl, rfl, rfl, trivial⟩ rfl rfl ?_
        exact (ih _ (by omega)).2.2 w g 1 Z0 m rfl (zB_mono hGm (by omega)) hFm hRm (by omega) (by omega)
    · intro w g i Z0 m hd hGm hFm hRm hi hz
      have b1 : 0 ≤ m.1 51 0 g.toNat ∧ m.1 51 0 g.toNat ≤ 1 := hGm.1 51 _ rfl _ _
      refine ww_go 4 (pc' := 30) (L' := [(0, .inr (.inr (.inl (some (34, 0))))), (1, .inl f), (2, .inl w), (3, .inl g), (4, .inl i)]) (st' := [.inl (m.1 51 0 g.toNat)]) (m' := m) (o := some ((0 < 1) ∧ (0 < 1 ∧ 0 ≤ g ∧ g < ((8 : Nat) : Int)))) rfl (show (0 < 1) ∧ (0 < 1 ∧ 0 ≤ g ∧ g < ((8 : Nat) : Int)) from by omega) ?_
      refine ww_if (t := 85) rfl rfl (by omega) (fun (h2 : m.1 51 0 g.toNat = 0) => ?_) (fun (h2 : ¬ (m.1 51 0 g.toNat = 0)) => ?_)
      · show wW (zK sc) zM243 85 [(0, .inr (.inr (.inl (some (34, 0))))), (1, .inl f), (2, .inl w), (3, .inl g), (4, .inl i)] [] _ _ _
        refine ww_go 2 (pc' := 12) (L' := [(3, .inl (g + 1)), (0, .inr (.inr (.inl (some (34, 0))))), (1, .inl f), (2, .inl w), (4, .inl i)]) (st' := []) (m' := m) (o := none) rfl trivial ?_
        refine ww_sub (L := [(0, .inr (.inr (.inl (some (34, 0))))), (1, .inl f), (2, .inl w), (3, .inl (g + 1))]) ⟨rfl, rfl, rfl, rfl, trivial⟩ rfl rfl ?_
        exact (ih _ (by omega)).2.1 w (g + 1) Z0 m rfl (zB_mono hGm (by omega)) hFm hRm (by omega) (by omega)
      · show wW (zK sc) zM243 33 [(0, .inr (.inr (.inl (some (34, 0))))), (1, .inl f), (2, .inl w), (3, .inl g), (4, .inl i)] [] _ _ _
        have b3 : 0 ≤ m.1 52 0 g.toNat ∧ m.1 52 0 g.toNat ≤ 6 := hGm.1 52 _ rfl _ _
        refine ww_go 5 (pc' := 41) (L' := [(0, .inr (.inr (.inl (some (34, 0))))), (1, .inl f), (2, .inl w), (3, .inl g), (4, .inl i)]) (st' := [.inl (m.1 52 0 g.toNat), .inl i]) (m' := m) (o := some ((0 < 1) ∧ (0 < 1 ∧ 0 ≤ g ∧ g < ((8 : Nat) : Int)))) rfl (show (0 < 1) ∧ (0 < 1 ∧ 0 ≤ g ∧ g < ((8 : Nat) : Int)) from by omega) ?_
        refine ww_ic (t := 85) rfl rfl (by omega) (fun (h4 : m.1 52 0 g.toNat < i) => ?_) (fun (h4 : ¬ (m.1 52 0 g.toNat < i)) => ?_)
        · show wW (zK sc) zM243 85 [(0, .inr (.inr (.inl (some (34, 0))))), (1, .inl f), (2, .inl w), (3, .inl g), (4, .inl i)] [] _ _ _
          refine ww_go 2 (pc' := 12) (L' := [(3, .inl (g + 1)), (0, .inr (.inr (.inl (some (34, 0))))), (1, .inl f), (2, .inl w), (4, .inl i)]) (st' := []) (m' := m) (o := none) rfl trivial ?_
          refine ww_sub (L := [(0, .inr (.inr (.inl (some (34, 0))))), (1, .inl f), (2, .inl w), (3, .inl (g + 1))]) ⟨rfl, rfl, rfl, rfl, trivial⟩ rfl rfl ?_
          exact (ih _ (by omega)).2.1 w (g + 1) Z0 m rfl (zB_mono hGm (by omega)) hFm hRm (by omega) (by omega)
        · show wW (zK sc) zM243 44 [(0, .inr (.inr (.inl (some (34, 0))))), (1, .inl f), (2, .inl w), (3, .inl g), (4, .inl i)] [] _ _ _
          have b5 : 0 ≤ m.1 57 0 (((7 * g) + i).toNat) ∧ m.1 57 0 (((7 * g) + i).toNat) ≤ 1 := hGm.1 57 _ rfl _ _
          refine ww_go 8 (pc' := 56) (L' := [(0, .inr (.inr (.inl (some (34, 0))))), (1, .inl f), (2, .inl w), (3, .inl g), (4, .inl i)]) (st' := [.inl (m.1 57 0 (((7 * g) + i).toNat))]) (m' := m) (o := some ((0 < 1) ∧ (0 < 1 ∧ 0 ≤ (7 * g) + i ∧ (7 * g) + i < ((56 : Nat) : Int)))) rfl (show (0 < 1) ∧ (0 < 1 ∧ 0 ≤ (7 * g) + i ∧ (7 * g) + i < ((56 : Nat) : Int)) from by omega) ?_
          refine ww_if (t := 69) rfl rfl (by omega) (fun (h6 : m.1 57 0 (((7 * g) + i).toNat) ≠ 0) => ?_) (fun (h6 : ¬ (m.1 57 0 (((7 * g) + i).toNat) ≠ 0)) => ?_)
          · show wW (zK sc) zM243 69 [(0, .inr (.inr (.inl (some (34, 0))))), (1, .inl f), (2, .inl w), (3, .inl g), (4, .inl i)] [] _ _ _
            refine ww_go 1 (pc' := 70) (L' := [(0, .inr (.inr (.inl (some (34, 0))))), (1, .inl f), (2, .inl w), (3, .inl g), (4, .inl i)]) (st' := [.inl w]) (m' := m) (o := none) rfl trivial ?_
            refine ww_if (t := 77) rfl rfl (by omega) (fun (h7 : w = 0) => ?_) (fun (h7 : ¬ (w = 0)) => ?_)
            · show wW (zK sc) zM243 77 [(0, .inr (.inr (.inl (some (34, 0))))), (1, .inl f), (2, .inl w), (3, .inl g), (4, .inl i)] [] _ _ _
              refine ww_go 4 (pc' := 24) (L' := [(4, .inl (i + 1)), (2, .inl 0), (0, .inr (.inr (.inl (some (34, 0))))), (1, .inl f), (3, .inl g)]) (st' := []) (m' := m) (o := none) rfl trivial ?_
              refine ww_sub (L := [(0, .inr (.inr (.inl (some (34, 0))))), (1, .inl f), (2, .inl 0), (3, .inl g), (4, .inl (i + 1))]) ⟨rfl, rfl, rfl, rfl, rfl, trivial⟩ rfl rfl ?_
              exact (ih _ (by omega)).2.2 0 g (i + 1) Z0 m rfl (zB_mono hGm (by omega)) hFm hRm (by omega) (by omega)
            · show wW (zK sc) zM243 73 [(0, .inr (.inr (.inl (some (34, 0))))), (1, .inl f), (2, .inl w), (3, .inl g), (4, .inl i)] [] _ _ _
              refine ww_go 5 (pc' := 24) (L' := [(4, .inl (i + 1)), (2, .inl 1), (0, .inr (.inr (.inl (some (34, 0))))), (1, .inl f), (3, .inl g)]) (st' := []) (m' := m) (o := none) rfl trivial ?_
              refine ww_sub (L := [(0, .inr (.inr (.inl (some (34, 0))))), (1, .inl f), (2, .inl 1), (3, .inl g), (4, .inl (i + 1))]) ⟨rfl, rfl, rfl, rfl, rfl, trivial⟩ rfl rfl ?_
              exact (ih _ (by omega)).2.2 1 g (i + 1) Z0 m rfl (zB_mono hGm (by omega)) hFm hRm (by omega) (by omega)
          · show wW (zK sc) zM243 59 [(0, .inr (.inr (.inl (some (34, 0))))), (1, .inl f), (2, .inl w), (3, .inl g), (4, .inl i)] [] _ _ _
            refine ww_go 3 (pc' := 63) (L' := [(0, .inr (.inr (.inl (some (34, 0))))), (1, .inl f), (2, .inl w), (3, .inl g), (4, .inl i)]) (st' := [.inl i, .inl g, .inr (.inr (.inl (some (34, 0))))]) (m' := m) (o := none) rfl trivial ?_
            refine ww_call (vs := [.inr (.inr (.inl (some (34, 0)))), .inl g, .inl i]) (r := []) (p := 0 < 1) rfl rfl rfl rfl (show 0 < 1 from by omega) (zs183 (c := c) (by omega) g i hGm hRm (by omega)) ?_
            rintro _ _ m10 ⟨r8, rfl, rfl, hGm10, hEm10, hRm10, hr9⟩
            have hFm10 : zfr (fun k i j => (k = 58) ∨ (k = 59) ∨ (k = 60) ∨ (k = 61) ∨ (k = 34 ∧ j = 30) ∨ (k = 54) ∨ (k = 55) ∨ (k = 57) ∨ (k = 56)) m0 m10 := zfr_tr hFm hEm10 (fun k i j z => Or.elim z (fun z => Or.inl z) (fun z => Or.elim z (fun z => Or.inr (Or.inl z)) (fun z => Or.elim z (fun z => Or.inr (Or.inr (Or.inl z))) (fun z => Or.elim z (fun z => Or.inr (Or.inr (Or.inr (Or.inl z)))) (fun z => Or.elim z (fun z => Or.inr (Or.inr (Or.inr (Or.inr (Or.inl z))))) (fun z => Or.elim z (fun z => Or.inr (Or.inr (Or.inr (Or.inr (Or.inr (Or.inl z)))))) (fun z => Or.elim z (fun z => Or.inr (Or.inr (Or.inr (Or.inr (Or.inr (Or.inr (Or.inl z))))))) (fun z => Or.elim z (fun z => Or.inr (Or.inr (Or.inr (Or.inr (Or.inr (Or.inr (Or.inr (Or.inl z)))))))) (fun z => Or.inr (Or.inr (Or.inr (Or.inr (Or.inr (Or.inr (Or.inr (Or.inr (z)))))))))))))))))
            show wW (zK sc) zM243 66 [(0, .inr (.inr (.inl (some (34, 0))))), (1, .inl f), (2, .inl w), (3, .inl g), (4, .inl i)] [.inl r8] _ _ _
            have z11 := (hr9).imp (fun z => (⟨z.1, zcn_eq z.2⟩ : r8 = 0 ∧ zcn m10 = zcn m)) (fun z => (⟨z.1, zcn_lt z.2 (by omega) (by omega)⟩ : r8 = 1 ∧ zcn m10 + 1 = zcn m))
            refine ww_if (t := 73) rfl rfl (by omega) (fun (h12 : r8 ≠ 0) => ?_) (fun (h12 : ¬ (r8 ≠ 0)) => ?_)
            · show wW (zK sc) zM243 73 [(0, .inr (.inr (.inl (some (34, 0))))), (1, .inl f), (2, .inl w), (3, .inl g), (4, .inl i)] [] _ _ _
              refine ww_go 5 (pc' := 24) (L' := [(4, .inl (i + 1)), (2, .inl 1), (0, .inr (.inr (.inl (some (34, 0))))), (1, .inl f), (3, .inl g)]) (st' := []) (m' := m10) (o := none) rfl trivial ?_
              refine ww_sub (L := [(0, .inr (.inr (.inl (some (34, 0))))), (1, .inl f), (2, .inl 1), (3, .inl g), (4, .inl (i + 1))]) ⟨rfl, rfl, rfl, rfl, rfl, trivial⟩ rfl rfl ?_
              exact (ih _ (by omega)).2.2 1 g (i + 1) Z0 m10 rfl (zB_mono hGm10 (by omega)) hFm10 hRm10 (by omega) (by omega)
            · show wW (zK sc) zM243 69 [(0, .inr (.inr (.inl (some (34, 0))))), (1, .inl f), (2, .inl w), (3, .inl g), (4, .inl i)] [] _ _ _
              refine ww_go 1 (pc' := 70) (L' := [(0, .inr (.inr (.inl (some (34, 0))))), (1, .inl f), (2, .inl w), (3, .inl g), (4, .inl i)]) (st' := [.inl w]) (m' := m10) (o := none) rfl trivial ?_
              refine ww_if (t := 77) rfl rfl (by omega) (fun (h13 : w = 0) => ?_) (fun (h13 : ¬ (w = 0)) => ?_)
              · show wW (zK sc) zM243 77 [(0, .inr (.inr (.inl (some (34, 0))))), (1, .inl f), (2, .inl w), (3, .inl g), (4, .inl i)] [] _ _ _
                refine ww_go 4 (pc' := 24) (L' := [(4, .inl (i + 1)), (2, .inl 0), (0, .inr (.inr (.inl (some (34, 0))))), (1, .inl f), (3, .inl g)]) (st' := []) (m' := m10) (o := none) rfl trivial ?_
                refine ww_sub (L := [(0, .inr (.inr (.inl (some (34, 0))))), (1, .inl f), (2, .inl 0), (3, .inl g), (4, .inl (i + 1))]) ⟨rfl, rfl, rfl, rfl, rfl, trivial⟩ rfl rfl ?_
                exact (ih _ (by omega)).2.2 0 g (i + 1) Z0 m10 rfl (zB_mono hGm10 (by omega)) hFm10 hRm10 (by omega) (by omega)
              · show wW (zK sc) zM243 73 [(0, .inr (.inr (.inl (some (34, 0))))), (1, .inl f), (2, .inl w), (3, .inl g), (4, .inl i)] [] _ _ _
                refine ww_go 5 (pc' := 24) (L' := [(4, .inl (i + 1)), (2, .inl 1), (0, .inr (.inr (.inl (some (34, 0))))), (1, .inl f), (3, .inl g)]) (st' := []) (m' := m10) (o := none) rfl trivial ?_
                refine ww_sub (L := [(0, .inr (.inr (.inl (some (34, 0))))), (1, .inl f), (2, .inl 1), (3, .inl g), (4, .inl (i + 1))]) ⟨rfl, rfl, rfl, rfl, rfl, trivial⟩ rfl rfl ?_
                exact (ih _ (by omega)).2.2 1 g (i + 1) Z0 m10 rfl (zB_mono hGm10 (by omega)) hFm10 hRm10 (by omega) (by omega)
set_option maxRecDepth 8000 in
/-- Mo.share -/
theorem zs243 {sc : xSc} {n : Nat × Nat} {m0 : wm} {c : Int} (hc : 0 ≤ c ∧ c ≤ 1000000) (f : Int) (hG : zB c m0) (hR : zRI m0) (h0 : 0 ≤ f ∧ f ≤ 1) : wX (zK sc) 243 [.inr (.inr (.inl (some (34, 0)))), .inl f] n m0 (wr (fun vv n1 m1 => vv = none ∧ n = n1 ∧ zB c m1 ∧ zfr (fun k i j => (k = 58) ∨ (k = 59) ∨ (k = 60) ∨ (k = 61) ∨ (k = 34 ∧ j = 30) ∨ (k = 54) ∨ (k = 55) ∨ (k = 57) ∨ (k = 56)) m0 m1 ∧ (zRI m1 ∧ (True)))) := by
  refine wX_of (N := zM243) rfl (Nat.le_of_ble_eq_true rfl) ?_
  show wW (zK sc) zM243 0 [(0, .inr (.inr (.inl (some (34, 0))))), (1, .inl f)] [] n m0 _
  have hF : zfr (fun k i j => (k = 58) ∨ (k = 59) ∨ (k = 60) ∨ (k = 61) ∨ (k = 34 ∧ j = 30) ∨ (k = 54) ∨ (k = 55) ∨ (k = 57) ∨ (k = 56)) m0 m0 := zfr_rf
  refine ww_go 2 (pc' := 2) (L' := [(2, .inl 1), (0, .inr (.inr (.inl (some (34, 0))))), (1, .inl f)]) (st' := []) (m' := m0) (o := none) rfl trivial ?_
  refine ww_sub (L := [(0, .inr (.inr (.inl (some (34, 0))))), (1, .inl f), (2, .inl 1)]) ⟨rfl, rfl, rfl, trivial⟩ rfl rfl ?_
  exact (zs243_l2 hc f hG hR h0 _).1 1 m0 rfl (zB_mono hG (by omega)) hF hR (by omega)
