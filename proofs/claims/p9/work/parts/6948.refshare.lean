set_option maxRecDepth 8000 in
theorem yt183_l165 {sc : xSc} {n : Nat × Nat} {m0 : wm} {c : Int} (hc : 0 ≤ c ∧ c ≤ 1000000) (f : Int) (i : Int) (hG : zB c m0) (hR : zRI m0) (h0 : 0 ≤ f ∧ f ≤ 7 ∧ 1 ≤ i ∧ i ≤ m0.1 52 0 f.toNat ∧ m0.1 51 0 f.toNat = 1 ∧ m0.1 57 0 (7 * f + i).toNat ≠ 1) : ∀ (d : Nat), ∀ (t : Int) (k : Int) (m : wm), (104 - k).toNat = d → zB c m → zfr (fun k i j => (k = 58) ∨ (k = 59) ∨ (k = 60) ∨ (k = 61) ∨ (k = 34 ∧ j = 30) ∨ (k = 54) ∨ (k = 55) ∨ (k = 57) ∨ (k = 56)) m0 m → zRI m → (0 ≤ t ∧ t ≤ 55 ∧ 0 ≤ k ∧ k ≤ 104) → (zHo m0 m (7 * f + i) ∧ zLR m = (zLR m0).filter (zkq (7 * f + i) (7 * f + i) (-1)) ∧ ∃ g k : Int, (f / 4 * 4 ≤ g ∧ g < f / 4 * 4 + 4 ∧ g ≠ f ∧ 1 ≤ k ∧ k ≤ 6) ∧ zAl m0 f i g k ∧ (∀ j : Int, 0 ≤ j → m.1 54 0 j.toNat = if j = 7 * f + i then m0.1 54 0 (7 * g + k).toNat else m0.1 54 0 j.toNat) ∧ (∀ j : Int, 0 ≤ j → m.1 55 0 j.toNat = if j = 2 * (7 * f + i) + 1 then (if 64 < m0.1 54 0 (7 * g + k).toNat then 1 else 0) else if j = 2 * (7 * f + i) then 1 else m0.1 55 0 j.toNat) ∧ ∀ j : Int, 0 ≤ j → (j < 104 * (7 * f + i) ∨ 104 * (7 * f + i) + 104 ≤ j) → m.1 56 0 j.toNat = m0.1 56 0 j.toNat) →  wW (zK sc) zM183 165 [(0, .inr (.inr (.inl (some (34, 0))))), (1, .inl f), (2, .inl i), (3, .inl (7 * f + i)), (6, .inl t), (7, .inl k)] [] n m (wr (fun vv n1 m1 => ∃ r : Int, vv = some (.inl r) ∧ n = n1 ∧ zB c m1 ∧ zfr (fun k i j => (k = 58) ∨ (k = 59) ∨ (k = 60) ∨ (k = 61) ∨ (k = 34 ∧ j = 30) ∨ (k = 54) ∨ (k = 55) ∨ (k = 57) ∨ (k = 56)) m0 m1 ∧ (zRI m1 ∧ ((r = 0 ∧ m0 = m1 ∧ zBz m0 f i) ∨ (r = 1 ∧ zHo m0 m1 (7 * f + i) ∧ zBo m0 m1 f i))))) := by
  intro d
  induction d using Nat.strongRecOn with
  | ind d ih =>
    intro t k m hd hGm hFm hRm hi hh
    have t0 : f.tdiv 4 = f / 4 := Int.tdiv_eq_ediv_of_nonneg (by omega)
    have bc : 0 ≤ m0.1 52 0 f.toNat ∧ m0.1 52 0 f.toNat ≤ 6 := hG.1 52 _ rfl _ _
    refine ww_go 2 (pc' := 169) (L' := [(0, .inr (.inr (.inl (some (34, 0))))), (1, .inl f), (2, .inl i), (3, .inl (7 * f + i)), (6, .inl t), (7, .inl k)]) (st' := [.inl 104, .inl k]) (m' := m) (o := none) rfl trivial ?_
    refine ww_ic (t := 203) rfl rfl (by omega) (fun (h1 : 104 ≤ k) => ?_) (fun (h1 : ¬ (104 ≤ k)) => ?_)
    · show wW (zK sc) zM183 203 [(0, .inr (.inr (.inl (some (34, 0))))), (1, .inl f), (2, .inl i), (3, .inl (7 * f + i)), (6, .inl t), (7, .inl k)] [] _ _ _
      refine ww_go 1 (pc' := 204) (L' := [(0, .inr (.inr (.inl (some (34, 0))))), (1, .inl f), (2, .inl i), (3, .inl (7 * f + i)), (6, .inl t), (7, .inl k)]) (st' := [.inl 1]) (m' := m) (o := none) rfl trivial ?_
      exact ww_rB rfl rfl (by omega) ⟨_, rfl, rfl, zB_mono hGm (by omega), hFm, ⟨hRm, Or.inr ⟨rfl, hh.1, (by have z9 : m0.1 57 0 (7 * f + i).toNat ≠ 1 := h0.2.2.2.2.2; exact z9), zfr_tr zfr_rf hFm (fun k i j z => z), hh⟩⟩⟩
    · show wW (zK sc) zM183 172 [(0, .inr (.inr (.inl (some (34, 0))))), (1, .inl f), (2, .inl i), (3, .inl (7 * f + i)), (6, .inl t), (7, .inl k)] [] _ _ _
      have b2 : 0 ≤ m.1 56 0 (((104 * t) + k).toNat) ∧ m.1 56 0 (((104 * t) + k).toNat) ≤ 255 := hGm.1 56 _ rfl _ _
      refine ww_go 16 (pc' := 197) (L' := [(0, .inr (.inr (.inl (some (34, 0))))), (1, .inl f), (2, .inl i), (3, .inl (7 * f + i)), (6, .inl t), (7, .inl k)]) (st' := []) (m' := wuI m 56 0 (((104 * (7 * f + i)) + k).toNat) (m.1 56 0 (((104 * t) + k).toNat))) (o := some ((0 < 1) ∧ (0 < 1) ∧ (0 < 1 ∧ 0 ≤ (104 * t) + k ∧ (104 * t) + k < ((5824 : Nat) : Int)) ∧ (0 < 1 ∧ 0 ≤ (104 * (7 * f + i)) + k ∧ (104 * (7 * f + i)) + k < ((5824 : Nat) : Int)))) rfl (show (0 < 1) ∧ (0 < 1) ∧ (0 < 1 ∧ 0 ≤ (104 * t) + k ∧ (104 * t) + k < ((5824 : Nat) : Int)) ∧ (0 < 1 ∧ 0 ≤ (104 * (7 * f + i)) + k ∧ (104 * (7 * f + i)) + k < ((5824 : Nat) : Int)) from by omega) ?_
      obtain ⟨m3, hm3⟩ : ∃ zq9 : wm, zq9 = wuI m 56 0 (((104 * (7 * f + i)) + k).toNat) (m.1 56 0 (((104 * t) + k).toNat)) := ⟨_, rfl⟩
      rw [← hm3]
      have hGm3 : zB c m3 := by rw [hm3]; exact zB_wI rfl (show 0 ≤ m.1 56 0 (((104 * t) + k).toNat) ∧ m.1 56 0 (((104 * t) + k).toNat) ≤ 255 from by omega) hGm
      have hFm3 : zfr (fun k i j => (k = 58) ∨ (k = 59) ∨ (k = 60) ∨ (k = 61) ∨ (k = 34 ∧ j = 30) ∨ (k = 54) ∨ (k = 55) ∨ (k = 57) ∨ (k = 56)) m0 m3 := by rw [hm3]; exact zfr_wI hFm (show (56 = 58) ∨ (56 = 59) ∨ (56 = 60) ∨ (56 = 61) ∨ (56 = 34 ∧ (((104 * (7 * f + i)) + k).toNat) = 30) ∨ (56 = 54) ∨ (56 = 55) ∨ (56 = 57) ∨ (56 = 56) from Or.inr (Or.inr (Or.inr (Or.inr (Or.inr (Or.inr (Or.inr (Or.inr (rfl)))))))))
      have s4 : m3.1 56 0 (((104 * (7 * f + i)) + k).toNat) = m.1 56 0 (((104 * t) + k).toNat) := by rw [hm3]; exact wuI_self
      have w5 : m3.1 57 0 ((7 * f + i).toNat) = m.1 57 0 ((7 * f + i).toNat) := by rw [hm3]; rfl
      have w6 : m3.1 54 0 ((7 * f + i).toNat) = m.1 54 0 ((7 * f + i).toNat) := by rw [hm3]; rfl
      have w7 : m3.1 51 0 f.toNat = m.1 51 0 f.toNat := by rw [hm3]; rfl
      have w8 : m3.1 52 0 f.toNat = m.1 52 0 f.toNat := by rw [hm3]; rfl
      have hRm3 : zRI m3 := by rw [hm3]; exact zRI_w56 (p := f) (i := i) (a := k) hRm (zB_ct hGm) (by omega) (Or.inl (by omega))
      refine ww_go 2 (pc' := 165) (L' := [(7, .inl (k + 1)), (0, .inr (.inr (.inl (some (34, 0))))), (1, .inl f), (2, .inl i), (3, .inl (7 * f + i)), (6, .inl t)]) (st' := []) (m' := m3) (o := none) rfl trivial ?_
      refine ww_sub (L := [(0, .inr (.inr (.inl (some (34, 0))))), (1, .inl f), (2, .inl i), (3, .inl (7 * f + i)), (6, .inl t), (7, .inl (k + 1))]) ⟨rfl, rfl, rfl, rfl, rfl, rfl, trivial⟩ rfl rfl ?_
      exact (ih _ (by omega)) t (k + 1) m3 rfl (zB_mono hGm3 (by omega)) hFm3 hRm3 (by omega) (by obtain ⟨a1, a2, g9, k9, a3, a4, a5, a6, a7⟩ := hh; exact ⟨(by rw [hm3]; exact a1), (by rw [hm3]; exact a2), g9, k9, a3, a4, (by rw [hm3]; exact a5), (by rw [hm3]; exact a6), fun j hj hl => (by rw [hm3, wuI_at (by omega) hj, if_neg (by omega)]; exact a7 j hj hl)⟩)
set_option maxRecDepth 8000 in
theorem yt183_l14 {sc : xSc} {n : Nat × Nat} {m0 : wm} {c : Int} (hc : 0 ≤ c ∧ c ≤ 1000000) (f : Int) (i : Int) (hG : zB c m0) (hR : zRI m0) (h0 : 0 ≤ f ∧ f ≤ 7 ∧ 1 ≤ i ∧ i ≤ m0.1 52 0 f.toNat ∧ m0.1 51 0 f.toNat = 1 ∧ m0.1 57 0 (7 * f + i).toNat ≠ 1) : ∀ (d : Nat), (∀ (g : Int), (8 - g).toNat * 100 + 99 = d → (f / 4 * 4 ≤ g ∧ g ≤ f / 4 * 4 + 4) → (∀ g9 k9 : Int, f / 4 * 4 ≤ g9 → g9 < g → g9 ≠ f → 1 ≤ k9 → k9 ≤ 6 → ¬ zAl m0 f i g9 k9) →  wW (zK sc) zM183 14 [(0, .inr (.inr (.inl (some (34, 0))))), (1, .inl f), (2, .inl i), (3, .inl (7 * f + i)), (4, .inl g)] [] n m0 (wr (fun vv n1 m1 => ∃ r : Int, vv = some (.inl r) ∧ n = n1 ∧ zB c m1 ∧ zfr (fun k i j => (k = 58) ∨ (k = 59) ∨ (k = 60) ∨ (k = 61) ∨ (k = 34 ∧ j = 30) ∨ (k = 54) ∨ (k = 55) ∨ (k = 57) ∨ (k = 56)) m0 m1 ∧ (zRI m1 ∧ ((r = 0 ∧ m0 = m1 ∧ zBz m0 f i) ∨ (r = 1 ∧ zHo m0 m1 (7 * f + i) ∧ zBo m0 m1 f i)))))) ∧ (∀ (g : Int) (k : Int), (8 - g).toNat * 100 + (7 - k).toNat = d → (f / 4 * 4 ≤ g ∧ g ≤ f / 4 * 4 + 3 ∧ 1 ≤ k ∧ k ≤ 7) → (∀ g9 k9 : Int, f / 4 * 4 ≤ g9 → g9 < g → g9 ≠ f → 1 ≤ k9 → k9 ≤ 6 → ¬ zAl m0 f i g9 k9) → (∀ k9 : Int, g ≠ f → 1 ≤ k9 → k9 < k → ¬ zAl m0 f i g k9) →  wW (zK sc) zM183 29 [(0, .inr (.inr (.inl (some (34, 0))))), (1, .inl f), (2, .inl i), (3, .inl (7 * f + i)), (4, .inl g), (5, .inl k)] [] n m0 (wr (fun vv n1 m1 => ∃ r : Int, vv = some (.inl r) ∧ n = n1 ∧ zB c m1 ∧ zfr (fun k i j => (k = 58) ∨ (k = 59) ∨ (k = 60) ∨ (k = 61) ∨ (k = 34 ∧ j = 30) ∨ (k = 54) ∨ (k = 55) ∨ (k = 57) ∨ (k = 56)) m0 m1 ∧ (zRI m1 ∧ ((r = 0 ∧ m0 = m1 ∧ zBz m0 f i) ∨ (r = 1 ∧ zHo m0 m1 (7 * f + i) ∧ zBo m0 m1 f i)))))) := by
  intro d
  induction d using Nat.strongRecOn with
  | ind d ih =>
    refine ⟨?_, ?_⟩
    · intro g hd hi hn9
      have t0 : f.tdiv 4 = f / 4 := Int.tdiv_eq_ediv_of_nonneg (by omega)
      have bc : 0 ≤ m0.1 52 0 f.toNat ∧ m0.1 52 0 f.toNat ≤ 6 := hG.1 52 _ rfl _ _
      have hF : zfr (fun k i j => (k = 58) ∨ (k = 59) ∨ (k = 60) ∨ (k = 61) ∨ (k = 34 ∧ j = 30) ∨ (k = 54) ∨ (k = 55) ∨ (k = 57) ∨ (k = 56)) m0 m0 := zfr_rf
      have t1 : (0 ≤ f → f.tdiv 4 = f / 4) ∧ (f < 0 → f.tdiv 4 = -((-f) / 4)) := ⟨fun z => Int.tdiv_eq_ediv_of_nonneg z, fun z => wtdiv_neg z⟩
      refine ww_go 8 (pc' := 23) (L' := [(0, .inr (.inr (.inl (some (34, 0))))), (1, .inl f), (2, .inl i), (3, .inl (7 * f + i)), (4, .inl g)]) (st' := [.inl (((f.tdiv 4) * 4) + 4), .inl g]) (m' := m0) (o := some ((-2147483648 ≤ f ∧ f ≤ 2147483647 ∧ 0 < (4 : Int) ∧ (4 : Int) ≤ 2147483647))) rfl (show (-2147483648 ≤ f ∧ f ≤ 2147483647 ∧ 0 < (4 : Int) ∧ (4 : Int) ≤ 2147483647) from by omega) ?_
      refine ww_ic (t := 217) rfl rfl (by omega) (fun (h2 : ((f.tdiv 4) * 4) + 4 ≤ g) => ?_) (fun (h2 : ¬ (((f.tdiv 4) * 4) + 4 ≤ g)) => ?_)
      · show wW (zK sc) zM183 217 [(0, .inr (.inr (.inl (some (34, 0))))), (1, .inl f), (2, .inl i), (3, .inl (7 * f + i)), (4, .inl g)] [] _ _ _
        refine ww_go 1 (pc' := 218) (L' := [(0, .inr (.inr (.inl (some (34, 0))))), (1, .inl f), (2, .inl i), (3, .inl (7 * f + i)), (4, .inl g)]) (st' := [.inl 0]) (m' := m0) (o := none) rfl trivial ?_
        exact ww_rB rfl rfl (by omega) ⟨_, rfl, rfl, zB_mono hG (by omega), hF, ⟨hR, Or.inl ⟨rfl, rfl, Or.inr (fun g9 k9 z1 z2 z3 z4 z5 => hn9 g9 k9 z1 (by omega) z3 z4 z5)⟩⟩⟩
      · show wW (zK sc) zM183 26 [(0, .inr (.inr (.inl (some (34, 0))))), (1, .inl f), (2, .inl i), (3, .inl (7 * f + i)), (4, .inl g)] [] _ _ _
        refine ww_go 2 (pc' := 29) (L' := [(5, .inl 1), (0, .inr (.inr (.inl (some (34, 0))))), (1, .inl f), (2, .inl i), (3, .inl (7 * f + i)), (4, .inl g)]) (st' := []) (m' := m0) (o := none) rfl trivial ?_
        refine ww_sub (L := [(0, .inr (.inr (.inl (some (34, 0))))), (1, .inl f), (2, .inl i), (3, .inl (7 * f + i)), (4, .inl g), (5, .inl 1)]) ⟨rfl, rfl, rfl, rfl, rfl, rfl, trivial⟩ rfl rfl ?_
        exact (ih _ (by omega)).2 g 1 rfl (by omega) (by exact hn9) (by exact fun k9 z1 z2 z3 => absurd z3 (by omega))
    · intro g k hd hi hn9 hk9
      have t0 : f.tdiv 4 = f / 4 := Int.tdiv_eq_ediv_of_nonneg (by omega)
      have bc : 0 ≤ m0.1 52 0 f.toNat ∧ m0.1 52 0 f.toNat ≤ 6 := hG.1 52 _ rfl _ _
      have hF : zfr (fun k i j => (k = 58) ∨ (k = 59) ∨ (k = 60) ∨ (k = 61) ∨ (k = 34 ∧ j = 30) ∨ (k = 54) ∨ (k = 55) ∨ (k = 57) ∨ (k = 56)) m0 m0 := zfr_rf
      refine ww_go 2 (pc' := 33) (L' := [(0, .inr (.inr (.inl (some (34, 0))))), (1, .inl f), (2, .inl i), (3, .inl (7 * f + i)), (4, .inl g), (5, .inl k)]) (st' := [.inl 7, .inl k]) (m' := m0) (o := none) rfl trivial ?_
      refine ww_ic (t := 211) rfl rfl (by omega) (fun (h1 : 7 ≤ k) => ?_) (fun (h1 : ¬ (7 ≤ k)) => ?_)
      · show wW (zK sc) zM183 211 [(0, .inr (.inr (.inl (some (34, 0))))), (1, .inl f), (2, .inl i), (3, .inl (7 * f + i)), (4, .inl g), (5, .inl k)] [] _ _ _
        refine ww_go 2 (pc' := 14) (L' := [(4, .inl (g + 1)), (0, .inr (.inr (.inl (some (34, 0))))), (1, .inl f), (2, .inl i), (3, .inl (7 * f + i)), (5, .inl k)]) (st' := []) (m' := m0) (o := none) rfl trivial ?_
        refine ww_sub (L := [(0, .inr (.inr (.inl (some (34, 0))))), (1, .inl f), (2, .inl i), (3, .inl (7 * f + i)), (4, .inl (g + 1))]) ⟨rfl, rfl, rfl, rfl, rfl, trivial⟩ rfl rfl ?_
        exact (ih _ (by omega)).1 (g + 1) rfl (by omega) (by exact fun g9 k9 z1 z2 z3 z4 z5 => (Decidable.em (g9 < g)).elim (fun z => hn9 g9 k9 z1 z z3 z4 z5) (fun z => (by rw [show g9 = g from by omega]; exact hk9 k9 (by omega) z4 (by omega))))
      · show wW (zK sc) zM183 36 [(0, .inr (.inr (.inl (some (34, 0))))), (1, .inl f), (2, .inl i), (3, .inl (7 * f + i)), (4, .inl g), (5, .inl k)] [] _ _ _
        refine ww_go 2 (pc' := 39) (L' := [(0, .inr (.inr (.inl (some (34, 0))))), (1, .inl f), (2, .inl i), (3, .inl (7 * f + i)), (4, .inl g), (5, .inl k)]) (st' := [.inl f, .inl g]) (m' := m0) (o := none) rfl trivial ?_
        refine ww_ic (t := 211) rfl rfl (by omega) (fun (h2 : g = f) => ?_) (fun (h2 : ¬ (g = f)) => ?_)
        · show wW (zK sc) zM183 211 [(0, .inr (.inr (.inl (some (34, 0))))), (1, .inl f), (2, .inl i), (3, .inl (7 * f + i)), (4, .inl g), (5, .inl k)] [] _ _ _
          refine ww_go 2 (pc' := 14) (L' := [(4, .inl (g + 1)), (0, .inr (.inr (.inl (some (34, 0))))), (1, .inl f), (2, .inl i), (3, .inl (7 * f + i)), (5, .inl k)]) (st' := []) (m' := m0) (o := none) rfl trivial ?_
          refine ww_sub (L := [(0, .inr (.inr (.inl (some (34, 0))))), (1, .inl f), (2, .inl i), (3, .inl (7 * f + i)), (4, .inl (g + 1))]) ⟨rfl, rfl, rfl, rfl, rfl, trivial⟩ rfl rfl ?_
          exact (ih _ (by omega)).1 (g + 1) rfl (by omega) (by exact fun g9 k9 z1 z2 z3 z4 z5 => (Decidable.em (g9 < g)).elim (fun z => hn9 g9 k9 z1 z z3 z4 z5) (fun z => (by rw [show g9 = g from by omega]; exact hk9 k9 (by omega) z4 (by omega))))
        · show wW (zK sc) zM183 42 [(0, .inr (.inr (.inl (some (34, 0))))), (1, .inl f), (2, .inl i), (3, .inl (7 * f + i)), (4, .inl g), (5, .inl k)] [] _ _ _
          have b3 : 0 ≤ m0.1 57 0 (((7 * g) + k).toNat) ∧ m0.1 57 0 (((7 * g) + k).toNat) ≤ 1 := hG.1 57 _ rfl _ _
          refine ww_go 10 (pc' := 59) (L' := [(6, .inl ((7 * g) + k)), (0, .inr (.inr (.inl (some (34, 0))))), (1, .inl f), (2, .inl i), (3, .inl (7 * f + i)), (4, .inl g), (5, .inl k)]) (st' := [.inl (m0.1 57 0 (((7 * g) + k).toNat))]) (m' := m0) (o := some ((0 < 1) ∧ (0 < 1 ∧ 0 ≤ (7 * g) + k ∧ (7 * g) + k < ((56 : Nat) : Int)))) rfl (show (0 < 1) ∧ (0 < 1 ∧ 0 ≤ (7 * g) + k ∧ (7 * g) + k < ((56 : Nat) : Int)) from by omega) ?_
          refine ww_if (t := 205) rfl rfl (by omega) (fun (h4 : m0.1 57 0 (((7 * g) + k).toNat) = 0) => ?_) (fun (h4 : ¬ (m0.1 57 0 (((7 * g) + k).toNat) = 0)) => ?_)
          · show wW (zK sc) zM183 205 [(6, .inl ((7 * g) + k)), (0, .inr (.inr (.inl (some (34, 0))))), (1, .inl f), (2, .inl i), (3, .inl (7 * f + i)), (4, .inl g), (5, .inl k)] [] _ _ _
            refine ww_go 2 (pc' := 29) (L' := [(5, .inl (k + 1)), (6, .inl ((7 * g) + k)), (0, .inr (.inr (.inl (some (34, 0))))), (1, .inl f), (2, .inl i), (3, .inl (7 * f + i)), (4, .inl g)]) (st' := []) (m' := m0) (o := none) rfl trivial ?_
            refine ww_sub (L := [(0, .inr (.inr (.inl (some (34, 0))))), (1, .inl f), (2, .inl i), (3, .inl (7 * f + i)), (4, .inl g), (5, .inl (k + 1))]) ⟨rfl, rfl, rfl, rfl, rfl, rfl, trivial⟩ rfl rfl ?_
            exact (ih _ (by omega)).2 g (k + 1) rfl (by omega) (by exact hn9) (by exact fun k9 z1 z2 z3 => (Decidable.em (k9 < k)).elim (fun z => hk9 k9 z1 z2 z) (fun z z9 => (by rw [show k9 = k from by omega] at z9; exact (by have z7 := z9.1; omega))))
          · show wW (zK sc) zM183 62 [(6, .inl ((7 * g) + k)), (0, .inr (.inr (.inl (some (34, 0))))), (1, .inl f), (2, .inl i), (3, .inl (7 * f + i)), (4, .inl g), (5, .inl k)] [] _ _ _
            have zh9 := (hR g (by omega) (by omega)).2.1 k (by omega) (by omega) (by omega)
            have bcg : 0 ≤ m0.1 52 0 g.toNat ∧ m0.1 52 0 g.toNat ≤ 6 := hG.1 52 _ rfl _ _
            have b5 : (-1) ≤ m0.1 54 0 (((7 * g) + k).toNat) ∧ m0.1 54 0 (((7 * g) + k).toNat) ≤ 104 := hG.1 54 _ rfl _ _
            refine ww_go 7 (pc' := 72) (L' := [(6, .inl ((7 * g) + k)), (0, .inr (.inr (.inl (some (34, 0))))), (1, .inl f), (2, .inl i), (3, .inl (7 * f + i)), (4, .inl g), (5, .inl k)]) (st' := [.inl i, .inl f, .inr (.inr (.inl (some (34, 0)))), .inl (m0.1 54 0 (((7 * g) + k).toNat))]) (m' := m0) (o := some ((0 < 1) ∧ (0 < 1 ∧ 0 ≤ (7 * g) + k ∧ (7 * g) + k < ((56 : Nat) : Int)))) rfl (show (0 < 1) ∧ (0 < 1 ∧ 0 ≤ (7 * g) + k ∧ (7 * g) + k < ((56 : Nat) : Int)) from by omega) ?_
            refine ww_call (vs := [.inr (.inr (.inl (some (34, 0)))), .inl f, .inl i]) (r := [.inl (m0.1 54 0 (((7 * g) + k).toNat))]) (p := 0 < 1) rfl rfl rfl rfl (show 0 < 1 from by omega) (yt245 (c := c) (by omega) f i _ hG (by omega) (zRI_mf (p := f) hR (by omega) (by omega))) ?_
            rintro _ _ _ ⟨r6, rfl, rfl, rfl, hr7⟩
            show wW (zK sc) zM183 75 [(6, .inl ((7 * g) + k)), (0, .inr (.inr (.inl (some (34, 0))))), (1, .inl f), (2, .inl i), (3, .inl (7 * f + i)), (4, .inl g), (5, .inl k)] [.inl r6, .inl (m0.1 54 0 (((7 * g) + k).toNat))] _ _ _
            refine ww_ic (t := 205) rfl rfl (by omega) (fun (h8 : m0.1 54 0 (((7 * g) + k).toNat) ≠ r6) => ?_) (fun (h8 : ¬ (m0.1 54 0 (((7 * g) + k).toNat) ≠ r6)) => ?_)
            · show wW (zK sc) zM183 205 [(6, .inl ((7 * g) + k)), (0, .inr (.inr (.inl (some (34, 0))))), (1, .inl f), (2, .inl i), (3, .inl (7 * f + i)), (4, .inl g), (5, .inl k)] [] _ _ _
              refine ww_go 2 (pc' := 29) (L' := [(5, .inl (k + 1)), (6, .inl ((7 * g) + k)), (0, .inr (.inr (.inl (some (34, 0))))), (1, .inl f), (2, .inl i), (3, .inl (7 * f + i)), (4, .inl g)]) (st' := []) (m' := m0) (o := none) rfl trivial ?_
              refine ww_sub (L := [(0, .inr (.inr (.inl (some (34, 0))))), (1, .inl f), (2, .inl i), (3, .inl (7 * f + i)), (4, .inl g), (5, .inl (k + 1))]) ⟨rfl, rfl, rfl, rfl, rfl, rfl, trivial⟩ rfl rfl ?_
              exact (ih _ (by omega)).2 g (k + 1) rfl (by omega) (by exact hn9) (by exact fun k9 z1 z2 z3 => (Decidable.em (k9 < k)).elim (fun z => hk9 k9 z1 z2 z) (fun z z9 => (by rw [show k9 = k from by omega] at z9; exact (by have z8 := hr7.1; have z7 := z9.2.1; omega))))
            · show wW (zK sc) zM183 78 [(6, .inl ((7 * g) + k)), (0, .inr (.inr (.inl (some (34, 0))))), (1, .inl f), (2, .inl i), (3, .inl (7 * f + i)), (4, .inl g), (5, .inl k)] [] _ _ _
              refine ww_go 3 (pc' := 83) (L' := [(6, .inl ((7 * g) + k)), (0, .inr (.inr (.inl (some (34, 0))))), (1, .inl f), (2, .inl i), (3, .inl (7 * f + i)), (4, .inl g), (5, .inl k)]) (st' := [.inl k, .inl g, .inr (.inr (.inl (some (34, 0))))]) (m' := m0) (o := none) rfl trivial ?_
              refine ww_call (vs := [.inr (.inr (.inl (some (34, 0)))), .inl g, .inl k]) (r := []) (p := 0 < 1) rfl rfl rfl rfl (show 0 < 1 from by omega) (yt203 (c := c) (by omega) g k _ hG (by omega) (zRI_mf (p := g) hR (by omega) (by omega))) ?_
              rintro _ _ _ ⟨r9, rfl, rfl, rfl, hr10⟩
              show wW (zK sc) zM183 86 [(6, .inl ((7 * g) + k)), (0, .inr (.inr (.inl (some (34, 0))))), (1, .inl f), (2, .inl i), (3, .inl (7 * f + i)), (4, .inl g), (5, .inl k)] [.inr (.inl r9)] _ _ _
              refine ww_go 3 (pc' := 89) (L' := [(6, .inl ((7 * g) + k)), (0, .inr (.inr (.inl (some (34, 0))))), (1, .inl f), (2, .inl i), (3, .inl (7 * f + i)), (4, .inl g), (5, .inl k)]) (st' := [.inl i, .inl f, .inr (.inr (.inl (some (34, 0)))), .inr (.inl r9)]) (m' := m0) (o := none) rfl trivial ?_
              refine ww_call (vs := [.inr (.inr (.inl (some (34, 0)))), .inl f, .inl i]) (r := [.inr (.inl r9)]) (p := 0 < 1) rfl rfl rfl rfl (show 0 < 1 from by omega) (yt203 (c := c) (by omega) f i _ hG (by omega) (zRI_mf (p := f) hR (by omega) (by omega))) ?_
              rintro _ _ _ ⟨r11, rfl, rfl, rfl, hr12⟩
              show wW (zK sc) zM183 92 [(6, .inl ((7 * g) + k)), (0, .inr (.inr (.inl (some (34, 0))))), (1, .inl f), (2, .inl i), (3, .inl (7 * f + i)), (4, .inl g), (5, .inl k)] [.inr (.inl r11), .inr (.inl r9)] _ _ _
              have t13 := wlcmp_rg r9 r11
              refine ww_go 1 (pc' := 93) (L' := [(6, .inl ((7 * g) + k)), (0, .inr (.inr (.inl (some (34, 0))))), (1, .inl f), (2, .inl i), (3, .inl (7 * f + i)), (4, .inl g), (5, .inl k)]) (st' := [.inl (wlcmp r9 r11)]) (m' := m0) (o := none) rfl trivial ?_
              refine ww_if (t := 99) rfl rfl (by omega) (fun (h14 : wlcmp r9 r11 = 0) => ?_) (fun (h14 : ¬ (wlcmp r9 r11 = 0)) => ?_)
              · show wW (zK sc) zM183 99 [(6, .inl ((7 * g) + k)), (0, .inr (.inr (.inl (some (34, 0))))), (1, .inl f), (2, .inl i), (3, .inl (7 * f + i)), (4, .inl g), (5, .inl k)] [] _ _ _
                refine ww_go 2 (pc' := 101) (L' := [(6, .inl ((7 * g) + k)), (0, .inr (.inr (.inl (some (34, 0))))), (1, .inl f), (2, .inl i), (3, .inl (7 * f + i)), (4, .inl g), (5, .inl k)]) (st' := [.inl (7 * f + i), .inr (.inr (.inl (some (34, 0))))]) (m' := m0) (o := none) rfl trivial ?_
                refine ww_call (vs := [.inr (.inr (.inl (some (34, 0)))), .inl (7 * f + i)]) (r := []) (p := 0 < 1) rfl rfl rfl rfl (show 0 < 1 from by omega) (yt199 (c := c) (by omega) (7 * f + i) hG (by omega)) ?_
                rintro _ _ m17 ⟨rfl, rfl, hGm17, hEm17, hr16⟩
                have hFm17 : zfr (fun k i j => (k = 58) ∨ (k = 59) ∨ (k = 60) ∨ (k = 61) ∨ (k = 34 ∧ j = 30) ∨ (k = 54) ∨ (k = 55) ∨ (k = 57) ∨ (k = 56)) m0 m17 := zfr_tr hF hEm17 (fun k i j z => Or.elim z (fun z => Or.inl z) (fun z => Or.elim z (fun z => Or.inr (Or.inl z)) (fun z => Or.elim z (fun z => Or.inr (Or.inr (Or.inl z))) (fun z => Or.elim z (fun z => Or.inr (Or.inr (Or.inr (Or.inl z)))) (fun z => Or.elim z (fun z => Or.inr (Or.inr (Or.inr (Or.inr (Or.inl z))))) (fun z => Or.elim z (fun z => Or.inr (Or.inr (Or.inr (Or.inr (Or.inr (Or.inl z)))))) (fun z => Or.elim z (fun z => Or.inr (Or.inr (Or.inr (Or.inr (Or.inr (Or.inr (Or.inl z))))))) (fun z => Or.inr (Or.inr (Or.inr (Or.inr (Or.inr (Or.inr (Or.inr (Or.inl z)))))))))))))))
                have w18 : m17.1 51 0 f.toNat = m0.1 51 0 f.toNat := (hEm17 51 0 f.toNat (show ¬ ((51 = 58) ∨ (51 = 59) ∨ (51 = 60) ∨ (51 = 61) ∨ (51 = 34 ∧ f.toNat = 30) ∨ (51 = 54) ∨ (51 = 55) ∨ (51 = 57)) from by omega)).1
                have w19 : m17.1 52 0 f.toNat = m0.1 52 0 f.toNat := (hEm17 52 0 f.toNat (show ¬ ((52 = 58) ∨ (52 = 59) ∨ (52 = 60) ∨ (52 = 61) ∨ (52 = 34 ∧ f.toNat = 30) ∨ (52 = 54) ∨ (52 = 55) ∨ (52 = 57)) from by omega)).1
                have hRm17 : zRI m17 := zRI_fg (p := f) (i := i) hR (zB_ct hG) (by omega) (by omega) (by omega) (by omega) hr16.1 (by funext j; exact (hEm17 51 0 j (show ¬ ((51 = 58) ∨ (51 = 59) ∨ (51 = 60) ∨ (51 = 61) ∨ (51 = 34 ∧ j = 30) ∨ (51 = 54) ∨ (51 = 55) ∨ (51 = 57)) from by omega)).1) (by funext j; exact (hEm17 52 0 j (show ¬ ((52 = 58) ∨ (52 = 59) ∨ (52 = 60) ∨ (52 = 61) ∨ (52 = 34 ∧ j = 30) ∨ (52 = 54) ∨ (52 = 55) ∨ (52 = 57)) from by omega)).1) (by funext j; exact (hEm17 53 0 j (show ¬ ((53 = 58) ∨ (53 = 59) ∨ (53 = 60) ∨ (53 = 61) ∨ (53 = 34 ∧ j = 30) ∨ (53 = 54) ∨ (53 = 55) ∨ (53 = 57)) from by omega)).1) (by funext j; exact (hEm17 56 0 j (show ¬ ((56 = 58) ∨ (56 = 59) ∨ (56 = 60) ∨ (56 = 61) ∨ (56 = 34 ∧ j = 30) ∨ (56 = 54) ∨ (56 = 55) ∨ (56 = 57)) from by omega)).1) (Or.inl (by omega)) (Or.inl (by omega))
                show wW (zK sc) zM183 104 [(6, .inl ((7 * g) + k)), (0, .inr (.inr (.inl (some (34, 0))))), (1, .inl f), (2, .inl i), (3, .inl (7 * f + i)), (4, .inl g), (5, .inl k)] [] _ _ _
                have zf1 := (hr16).1.1 (7 * f + i) (by omega)
                rw [if_pos rfl] at zf1
                have zf2 := (hr16).1.2.1 (7 * g + k) (by omega)
                rw [if_neg (by omega)] at zf2
                have b20 : (-1) ≤ m17.1 54 0 (((7 * g) + k).toNat) ∧ m17.1 54 0 (((7 * g) + k).toNat) ≤ 104 := hGm17.1 54 _ rfl _ _
                refine ww_go 8 (pc' := 117) (L' := [(6, .inl ((7 * g) + k)), (0, .inr (.inr (.inl (some (34, 0))))), (1, .inl f), (2, .inl i), (3, .inl (7 * f + i)), (4, .inl g), (5, .inl k)]) (st' := []) (m' := wuI m17 54 0 ((7 * f + i).toNat) (m17.1 54 0 (((7 * g) + k).toNat))) (o := some ((0 < 1) ∧ (0 < 1) ∧ (0 < 1 ∧ 0 ≤ (7 * g) + k ∧ (7 * g) + k < ((56 : Nat) : Int)) ∧ (0 < 1 ∧ 0 ≤ 7 * f + i ∧ 7 * f + i < ((56 : Nat) : Int)))) rfl (show (0 < 1) ∧ (0 < 1) ∧ (0 < 1 ∧ 0 ≤ (7 * g) + k ∧ (7 * g) + k < ((56 : Nat) : Int)) ∧ (0 < 1 ∧ 0 ≤ 7 * f + i ∧ 7 * f + i < ((56 : Nat) : Int)) from by omega) ?_
                obtain ⟨m21, hm21⟩ : ∃ zq9 : wm, zq9 = wuI m17 54 0 ((7 * f + i).toNat) (m17.1 54 0 (((7 * g) + k).toNat)) := ⟨_, rfl⟩
                rw [← hm21]
                have hGm21 : zB c m21 := by rw [hm21]; exact zB_wI rfl (show (-1) ≤ m17.1 54 0 (((7 * g) + k).toNat) ∧ m17.1 54 0 (((7 * g) + k).toNat) ≤ 104 from by omega) hGm17
                have hFm21 : zfr (fun k i j => (k = 58) ∨ (k = 59) ∨ (k = 60) ∨ (k = 61) ∨ (k = 34 ∧ j = 30) ∨ (k = 54) ∨ (k = 55) ∨ (k = 57) ∨ (k = 56)) m0 m21 := by rw [hm21]; exact zfr_wI hFm17 (show (54 = 58) ∨ (54 = 59) ∨ (54 = 60) ∨ (54 = 61) ∨ (54 = 34 ∧ ((7 * f + i).toNat) = 30) ∨ (54 = 54) ∨ (54 = 55) ∨ (54 = 57) ∨ (54 = 56) from Or.inr (Or.inr (Or.inr (Or.inr (Or.inr (Or.inl rfl))))))
                have s22 : m21.1 54 0 ((7 * f + i).toNat) = m17.1 54 0 (((7 * g) + k).toNat) := by rw [hm21]; exact wuI_self
                have w23 : m21.1 57 0 ((7 * f + i).toNat) = m17.1 57 0 ((7 * f + i).toNat) := by rw [hm21]; rfl
                have w24 : m21.1 51 0 f.toNat = m17.1 51 0 f.toNat := by rw [hm21]; rfl
                have w25 : m21.1 52 0 f.toNat = m17.1 52 0 f.toNat := by rw [hm21]; rfl
                have hRm21 : zRI m21 := by rw [hm21]; exact zRI_w54 (p := f) (i := i) hRm17 (zB_ct hGm17) (by omega) (Or.inr ⟨Or.inl (by omega), by omega⟩)
                have w26 : m21.1 54 0 (7 * g + k).toNat = m17.1 54 0 (7 * g + k).toNat := by rw [hm21]; exact wuI_nj (by omega)
                refine ww_go 7 (pc' := 126) (L' := [(6, .inl ((7 * g) + k)), (0, .inr (.inr (.inl (some (34, 0))))), (1, .inl f), (2, .inl i), (3, .inl (7 * f + i)), (4, .inl g), (5, .inl k)]) (st' := []) (m' := wuI m21 55 0 ((2 * (7 * f + i)).toNat) 1) (o := some ((0 < 1) ∧ (0 < 1 ∧ 0 ≤ 2 * (7 * f + i) ∧ 2 * (7 * f + i) < ((112 : Nat) : Int) ∧ 0 ≤ (1 : Int) ∧ (1 : Int) ≤ 1))) rfl (show (0 < 1) ∧ (0 < 1 ∧ 0 ≤ 2 * (7 * f + i) ∧ 2 * (7 * f + i) < ((112 : Nat) : Int) ∧ 0 ≤ (1 : Int) ∧ (1 : Int) ≤ 1) from by omega) ?_
                obtain ⟨m27, hm27⟩ : ∃ zq9 : wm, zq9 = wuI m21 55 0 ((2 * (7 * f + i)).toNat) 1 := ⟨_, rfl⟩
                rw [← hm27]
                have hGm27 : zB c m27 := by rw [hm27]; exact zB_wI rfl (show 0 ≤ (1 : Int) ∧ (1 : Int) ≤ 1 from by omega) hGm21
                have hFm27 : zfr (fun k i j => (k = 58) ∨ (k = 59) ∨ (k = 60) ∨ (k = 61) ∨ (k = 34 ∧ j = 30) ∨ (k = 54) ∨ (k = 55) ∨ (k = 57) ∨ (k = 56)) m0 m27 := by rw [hm27]; exact zfr_wI hFm21 (show (55 = 58) ∨ (55 = 59) ∨ (55 = 60) ∨ (55 = 61) ∨ (55 = 34 ∧ ((2 * (7 * f + i)).toNat) = 30) ∨ (55 = 54) ∨ (55 = 55) ∨ (55 = 57) ∨ (55 = 56) from Or.inr (Or.inr (Or.inr (Or.inr (Or.inr (Or.inr (Or.inl rfl)))))))
                have s28 : m27.1 55 0 ((2 * (7 * f + i)).toNat) = (1 : Int) := by rw [hm27]; exact wuI_self
                have w29 : m27.1 57 0 ((7 * f + i).toNat) = m21.1 57 0 ((7 * f + i).toNat) := by rw [hm27]; rfl
                have w30 : m27.1 54 0 ((7 * f + i).toNat) = m21.1 54 0 ((7 * f + i).toNat) := by rw [hm27]; rfl
                have w31 : m27.1 51 0 f.toNat = m21.1 51 0 f.toNat := by rw [hm27]; rfl
                have w32 : m27.1 52 0 f.toNat = m21.1 52 0 f.toNat := by rw [hm27]; rfl
                have hRm27 : zRI m27 := by rw [hm27]; exact zRI_w55a (p := f) (i := i) hRm21 (zB_ct hGm21) (by omega) (Or.inl rfl)
                have w33 : m27.1 54 0 (7 * g + k).toNat = m21.1 54 0 (7 * g + k).toNat := by rw [hm27]; rfl
                have b34 : (-1) ≤ m27.1 54 0 (((7 * g) + k).toNat) ∧ m27.1 54 0 (((7 * g) + k).toNat) ≤ 104 := hGm27.1 54 _ rfl _ _
                refine ww_go 11 (pc' := 142) (L' := [(6, .inl ((7 * g) + k)), (0, .inr (.inr (.inl (some (34, 0))))), (1, .inl f), (2, .inl i), (3, .inl (7 * f + i)), (4, .inl g), (5, .inl k)]) (st' := [.inl (m27.1 54 0 (((7 * g) + k).toNat)), .inl ((2 * (7 * f + i)) + 1), .inr (.inr (.inl (some (55, 0))))]) (m' := m27) (o := some ((0 < 1) ∧ (0 < 1) ∧ (0 < 1 ∧ 0 ≤ (7 * g) + k ∧ (7 * g) + k < ((56 : Nat) : Int)))) rfl (show (0 < 1) ∧ (0 < 1) ∧ (0 < 1 ∧ 0 ≤ (7 * g) + k ∧ (7 * g) + k < ((56 : Nat) : Int)) from by omega) ?_
                refine ww_call (vs := [.inl (m27.1 54 0 (((7 * g) + k).toNat))]) (r := [.inl ((2 * (7 * f + i)) + 1), .inr (.inr (.inl (some (55, 0))))]) (p := True) rfl rfl rfl rfl trivial (zs182 (m27.1 54 0 (((7 * g) + k).toNat)) (by omega)) ?_
                rintro _ _ _ ⟨r35, rfl, rfl, rfl, hr36⟩
                show wW (zK sc) zM183 145 [(6, .inl ((7 * g) + k)), (0, .inr (.inr (.inl (some (34, 0))))), (1, .inl f), (2, .inl i), (3, .inl (7 * f + i)), (4, .inl g), (5, .inl k)] [.inl r35, .inl ((2 * (7 * f + i)) + 1), .inr (.inr (.inl (some (55, 0))))] _ _ _
                refine ww_go 1 (pc' := 146) (L' := [(6, .inl ((7 * g) + k)), (0, .inr (.inr (.inl (some (34, 0))))), (1, .inl f), (2, .inl i), (3, .inl (7 * f + i)), (4, .inl g), (5, .inl k)]) (st' := [.inl 2, .inl r35, .inl ((2 * (7 * f + i)) + 1), .inr (.inr (.inl (some (55, 0))))]) (m' := m27) (o := none) rfl trivial ?_
                refine ww_ic (t := 153) rfl rfl (by omega) (fun (h37 : r35 ≠ 2) => ?_) (fun (h37 : ¬ (r35 ≠ 2)) => ?_)
                · show wW (zK sc) zM183 153 [(6, .inl ((7 * g) + k)), (0, .inr (.inr (.inl (some (34, 0))))), (1, .inl f), (2, .inl i), (3, .inl (7 * f + i)), (4, .inl g), (5, .inl k)] [.inl ((2 * (7 * f + i)) + 1), .inr (.inr (.inl (some (55, 0))))] _ _ _
                  refine ww_go 2 (pc' := 155) (L' := [(6, .inl ((7 * g) + k)), (0, .inr (.inr (.inl (some (34, 0))))), (1, .inl f), (2, .inl i), (3, .inl (7 * f + i)), (4, .inl g), (5, .inl k)]) (st' := []) (m' := wuI m27 55 0 (((2 * (7 * f + i)) + 1).toNat) 0) (o := some ((0 < 1 ∧ 0 ≤ (2 * (7 * f + i)) + 1 ∧ (2 * (7 * f + i)) + 1 < ((112 : Nat) : Int) ∧ 0 ≤ (0 : Int) ∧ (0 : Int) ≤ 1))) rfl (show (0 < 1 ∧ 0 ≤ (2 * (7 * f + i)) + 1 ∧ (2 * (7 * f + i)) + 1 < ((112 : Nat) : Int) ∧ 0 ≤ (0 : Int) ∧ (0 : Int) ≤ 1) from by omega) ?_
                  obtain ⟨m38, hm38⟩ : ∃ zq9 : wm, zq9 = wuI m27 55 0 (((2 * (7 * f + i)) + 1).toNat) 0 := ⟨_, rfl⟩
                  rw [← hm38]
                  have hGm38 : zB c m38 := by rw [hm38]; exact zB_wI rfl (show 0 ≤ (0 : Int) ∧ (0 : Int) ≤ 1 from by omega) hGm27
                  have hFm38 : zfr (fun k i j => (k = 58) ∨ (k = 59) ∨ (k = 60) ∨ (k = 61) ∨ (k = 34 ∧ j = 30) ∨ (k = 54) ∨ (k = 55) ∨ (k = 57) ∨ (k = 56)) m0 m38 := by rw [hm38]; exact zfr_wI hFm27 (show (55 = 58) ∨ (55 = 59) ∨ (55 = 60) ∨ (55 = 61) ∨ (55 = 34 ∧ (((2 * (7 * f + i)) + 1).toNat) = 30) ∨ (55 = 54) ∨ (55 = 55) ∨ (55 = 57) ∨ (55 = 56) from Or.inr (Or.inr (Or.inr (Or.inr (Or.inr (Or.inr (Or.inl rfl)))))))
                  have s39 : m38.1 55 0 (((2 * (7 * f + i)) + 1).toNat) = (0 : Int) := by rw [hm38]; exact wuI_self
                  have w40 : m38.1 57 0 ((7 * f + i).toNat) = m27.1 57 0 ((7 * f + i).toNat) := by rw [hm38]; rfl
                  have w41 : m38.1 54 0 ((7 * f + i).toNat) = m27.1 54 0 ((7 * f + i).toNat) := by rw [hm38]; rfl
                  have w42 : m38.1 51 0 f.toNat = m27.1 51 0 f.toNat := by rw [hm38]; rfl
                  have w43 : m38.1 52 0 f.toNat = m27.1 52 0 f.toNat := by rw [hm38]; rfl
                  have hRm38 : zRI m38 := by rw [hm38]; exact zRI_w55 (p := f) (i := i) (b := 1) hRm27 (zB_ct hGm27) (by omega) (Or.inr ⟨Or.inl (by omega), by omega⟩)
                  have w44 : m38.1 54 0 (7 * g + k).toNat = m27.1 54 0 (7 * g + k).toNat := by rw [hm38]; rfl
                  have w45 : m38.1 55 0 (2 * (7 * f + i)).toNat = m27.1 55 0 (2 * (7 * f + i)).toNat := by rw [hm38]; exact wuI_nj (by omega)
                  refine ww_go 5 (pc' := 162) (L' := [(6, .inl ((7 * g) + k)), (0, .inr (.inr (.inl (some (34, 0))))), (1, .inl f), (2, .inl i), (3, .inl (7 * f + i)), (4, .inl g), (5, .inl k)]) (st' := []) (m' := wuI m38 57 0 ((7 * f + i).toNat) 1) (o := some ((0 < 1) ∧ (0 < 1 ∧ 0 ≤ 7 * f + i ∧ 7 * f + i < ((56 : Nat) : Int) ∧ 0 ≤ (1 : Int) ∧ (1 : Int) ≤ 1))) rfl (show (0 < 1) ∧ (0 < 1 ∧ 0 ≤ 7 * f + i ∧ 7 * f + i < ((56 : Nat) : Int) ∧ 0 ≤ (1 : Int) ∧ (1 : Int) ≤ 1) from by omega) ?_
                  obtain ⟨m46, hm46⟩ : ∃ zq9 : wm, zq9 = wuI m38 57 0 ((7 * f + i).toNat) 1 := ⟨_, rfl⟩
                  rw [← hm46]
                  have hGm46 : zB c m46 := by rw [hm46]; exact zB_wI rfl (show 0 ≤ (1 : Int) ∧ (1 : Int) ≤ 1 from by omega) hGm38
                  have hFm46 : zfr (fun k i j => (k = 58) ∨ (k = 59) ∨ (k = 60) ∨ (k = 61) ∨ (k = 34 ∧ j = 30) ∨ (k = 54) ∨ (k = 55) ∨ (k = 57) ∨ (k = 56)) m0 m46 := by rw [hm46]; exact zfr_wI hFm38 (show (57 = 58) ∨ (57 = 59) ∨ (57 = 60) ∨ (57 = 61) ∨ (57 = 34 ∧ ((7 * f + i).toNat) = 30) ∨ (57 = 54) ∨ (57 = 55) ∨ (57 = 57) ∨ (57 = 56) from Or.inr (Or.inr (Or.inr (Or.inr (Or.inr (Or.inr (Or.inr (Or.inl rfl))))))))
                  have s47 : m46.1 57 0 ((7 * f + i).toNat) = (1 : Int) := by rw [hm46]; exact wuI_self
                  have w48 : m46.1 54 0 ((7 * f + i).toNat) = m38.1 54 0 ((7 * f + i).toNat) := by rw [hm46]; rfl
                  have w49 : m46.1 51 0 f.toNat = m38.1 51 0 f.toNat := by rw [hm46]; rfl
                  have w50 : m46.1 52 0 f.toNat = m38.1 52 0 f.toNat := by rw [hm46]; rfl
                  have hRm46 : zRI m46 := by rw [hm46]; exact zRI_w57 (p := f) (i := i) hRm38 (by omega) (by omega)
                  have hho : zHo m0 m46 (7 * f + i) := fun j hj => by
                    rw [hm46, wuI_at (by omega) hj, hm38, hm27, hm21]
                    show (if j = 7 * f + i then (1 : Int) else m17.1 57 0 j.toNat) = _
                    rw [(hr16).1.1 j hj]
                    by_cases z : j = 7 * f + i
                    · rw [if_pos z, if_pos z]
                    · rw [if_neg z, if_neg z, if_neg z]
                  have hs54 : ∀ j : Int, 0 ≤ j → m46.1 54 0 j.toNat = if j = 7 * f + i then m0.1 54 0 (7 * g + k).toNat else m0.1 54 0 j.toNat := fun j hj => by
                    rw [hm46, hm38, hm27, hm21]
                    show (wuI m17 54 0 (7 * f + i).toNat (m17.1 54 0 (7 * g + k).toNat)).1 54 0 j.toNat = _
                    rw [wuI_at (by omega) hj, zf2]
                    by_cases z : j = 7 * f + i
                    · rw [if_pos z, if_pos z]
                    · rw [if_neg z, if_neg z, (hr16).1.2.1 j hj, if_neg z]
                  have hs55 : ∀ j : Int, 0 ≤ j → m46.1 55 0 j.toNat = if j = 2 * (7 * f + i) + 1 then (if 64 < m0.1 54 0 (7 * g + k).toNat then 1 else 0) else if j = 2 * (7 * f + i) then 1 else m0.1 55 0 j.toNat := fun j hj => by
                    rw [hm46]
                    show m38.1 55 0 j.toNat = _
                    rw [hm38, wuI_at (by omega) hj, hm27, wuI_at (by omega) hj, hm21]
                    show (if j = 2 * (7 * f + i) + 1 then (0 : Int) else if j = 2 * (7 * f + i) then (1 : Int) else m17.1 55 0 j.toNat) = _
                    rw [(hr16).1.2.2 j hj]
                    by_cases z : j = 2 * (7 * f + i) + 1
                    · rw [if_pos z, if_pos z]; first | (rw [if_pos (by omega)]; done) | (rw [if_neg (by omega)]; done)
                    · rw [if_neg z, if_neg z]; by_cases z2 : j = 2 * (7 * f + i); (rw [if_pos z2, if_pos z2]); (rw [if_neg z2, if_neg z2, if_neg (by omega)])
                  have hsL : zLR m46 = (zLR m0).filter (zkq (7 * f + i) (7 * f + i) (-1)) := by rw [hm46, hm38, hm27, hm21]; exact hr16.2
                  have hs56 : ∀ j : Int, 0 ≤ j → (j < 104 * (7 * f + i) ∨ 104 * (7 * f + i) + 104 ≤ j) → m46.1 56 0 j.toNat = m0.1 56 0 j.toNat := fun j _ _ => by rw [hm46, hm38, hm27, hm21]; exact (hEm17 56 0 j.toNat (show ¬ ((56 = 58) ∨ (56 = 59) ∨ (56 = 60) ∨ (56 = 61) ∨ (56 = 34 ∧ j.toNat = 30) ∨ (56 = 54) ∨ (56 = 55) ∨ (56 = 57)) from by omega)).1
                  have hal : zAl m0 f i g k := ⟨by omega, (by have z9 := hr7.1; omega), hr10.symm.trans (((wlcmp_rg r9 r11).2.2.1 (by omega)).trans hr12)⟩
                  refine ww_go 2 (pc' := 165) (L' := [(7, .inl 0), (6, .inl ((7 * g) + k)), (0, .inr (.inr (.inl (some (34, 0))))), (1, .inl f), (2, .inl i), (3, .inl (7 * f + i)), (4, .inl g), (5, .inl k)]) (st' := []) (m' := m46) (o := none) rfl trivial ?_
                  refine ww_sub (L := [(0, .inr (.inr (.inl (some (34, 0))))), (1, .inl f), (2, .inl i), (3, .inl (7 * f + i)), (6, .inl ((7 * g) + k)), (7, .inl 0)]) ⟨rfl, rfl, rfl, rfl, rfl, rfl, trivial⟩ rfl rfl ?_
                  exact (yt183_l165 hc f i hG hR h0 _) ((7 * g) + k) 0 m46 rfl (zB_mono hGm46 (by omega)) hFm46 hRm46 (by omega) (by exact ⟨hho, hsL, g, k, by omega, hal, hs54, hs55, hs56⟩)
                · show wW (zK sc) zM183 149 [(6, .inl ((7 * g) + k)), (0, .inr (.inr (.inl (some (34, 0))))), (1, .inl f), (2, .inl i), (3, .inl (7 * f + i)), (4, .inl g), (5, .inl k)] [.inl ((2 * (7 * f + i)) + 1), .inr (.inr (.inl (some (55, 0))))] _ _ _
                  refine ww_go 3 (pc' := 155) (L' := [(6, .inl ((7 * g) + k)), (0, .inr (.inr (.inl (some (34, 0))))), (1, .inl f), (2, .inl i), (3, .inl (7 * f + i)), (4, .inl g), (5, .inl k)]) (st' := []) (m' := wuI m27 55 0 (((2 * (7 * f + i)) + 1).toNat) 1) (o := some ((0 < 1 ∧ 0 ≤ (2 * (7 * f + i)) + 1 ∧ (2 * (7 * f + i)) + 1 < ((112 : Nat) : Int) ∧ 0 ≤ (1 : Int) ∧ (1 : Int) ≤ 1))) rfl (show (0 < 1 ∧ 0 ≤ (2 * (7 * f + i)) + 1 ∧ (2 * (7 * f + i)) + 1 < ((112 : Nat) : Int) ∧ 0 ≤ (1 : Int) ∧ (1 : Int) ≤ 1) from by omega) ?_
                  obtain ⟨m51, hm51⟩ : ∃ zq9 : wm, zq9 = wuI m27 55 0 (((2 * (7 * f + i)) + 1).toNat) 1 := ⟨_, rfl⟩
                  rw [← hm51]
                  have hGm51 : zB c m51 := by rw [hm51]; exact zB_wI rfl (show 0 ≤ (1 : Int) ∧ (1 : Int) ≤ 1 from by omega) hGm27
                  have hFm51 : zfr (fun k i j => (k = 58) ∨ (k = 59) ∨ (k = 60) ∨ (k = 61) ∨ (k = 34 ∧ j = 30) ∨ (k = 54) ∨ (k = 55) ∨ (k = 57) ∨ (k = 56)) m0 m51 := by rw [hm51]; exact zfr_wI hFm27 (show (55 = 58) ∨ (55 = 59) ∨ (55 = 60) ∨ (55 = 61) ∨ (55 = 34 ∧ (((2 * (7 * f + i)) + 1).toNat) = 30) ∨ (55 = 54) ∨ (55 = 55) ∨ (55 = 57) ∨ (55 = 56) from Or.inr (Or.inr (Or.inr (Or.inr (Or.inr (Or.inr (Or.inl rfl)))))))
                  have s52 : m51.1 55 0 (((2 * (7 * f + i)) + 1).toNat) = (1 : Int) := by rw [hm51]; exact wuI_self
                  have w53 : m51.1 57 0 ((7 * f + i).toNat) = m27.1 57 0 ((7 * f + i).toNat) := by rw [hm51]; rfl
                  have w54 : m51.1 54 0 ((7 * f + i).toNat) = m27.1 54 0 ((7 * f + i).toNat) := by rw [hm51]; rfl
                  have w55 : m51.1 51 0 f.toNat = m27.1 51 0 f.toNat := by rw [hm51]; rfl
                  have w56 : m51.1 52 0 f.toNat = m27.1 52 0 f.toNat := by rw [hm51]; rfl
                  have hRm51 : zRI m51 := by rw [hm51]; exact zRI_w55 (p := f) (i := i) (b := 1) hRm27 (zB_ct hGm27) (by omega) (Or.inr ⟨Or.inl (by omega), by omega⟩)
                  have w57 : m51.1 54 0 (7 * g + k).toNat = m27.1 54 0 (7 * g + k).toNat := by rw [hm51]; rfl
                  have w58 : m51.1 55 0 (2 * (7 * f + i)).toNat = m27.1 55 0 (2 * (7 * f + i)).toNat := by rw [hm51]; exact wuI_nj (by omega)
                  refine ww_go 5 (pc' := 162) (L' := [(6, .inl ((7 * g) + k)), (0, .inr (.inr (.inl (some (34, 0))))), (1, .inl f), (2, .inl i), (3, .inl (7 * f + i)), (4, .inl g), (5, .inl k)]) (st' := []) (m' := wuI m51 57 0 ((7 * f + i).toNat) 1) (o := some ((0 < 1) ∧ (0 < 1 ∧ 0 ≤ 7 * f + i ∧ 7 * f + i < ((56 : Nat) : Int) ∧ 0 ≤ (1 : Int) ∧ (1 : Int) ≤ 1))) rfl (show (0 < 1) ∧ (0 < 1 ∧ 0 ≤ 7 * f + i ∧ 7 * f + i < ((56 : Nat) : Int) ∧ 0 ≤ (1 : Int) ∧ (1 : Int) ≤ 1) from by omega) ?_
                  obtain ⟨m59, hm59⟩ : ∃ zq9 : wm, zq9 = wuI m51 57 0 ((7 * f + i).toNat) 1 := ⟨_, rfl⟩
                  rw [← hm59]
                  have hGm59 : zB c m59 := by rw [hm59]; exact zB_wI rfl (show 0 ≤ (1 : Int) ∧ (1 : Int) ≤ 1 from by omega) hGm51
                  have hFm59 : zfr (fun k i j => (k = 58) ∨ (k = 59) ∨ (k = 60) ∨ (k = 61) ∨ (k = 34 ∧ j = 30) ∨ (k = 54) ∨ (k = 55) ∨ (k = 57) ∨ (k = 56)) m0 m59 := by rw [hm59]; exact zfr_wI hFm51 (show (57 = 58) ∨ (57 = 59) ∨ (57 = 60) ∨ (57 = 61) ∨ (57 = 34 ∧ ((7 * f + i).toNat) = 30) ∨ (57 = 54) ∨ (57 = 55) ∨ (57 = 57) ∨ (57 = 56) from Or.inr (Or.inr (Or.inr (Or.inr (Or.inr (Or.inr (Or.inr (Or.inl rfl))))))))
                  have s60 : m59.1 57 0 ((7 * f + i).toNat) = (1 : Int) := by rw [hm59]; exact wuI_self
                  have w61 : m59.1 54 0 ((7 * f + i).toNat) = m51.1 54 0 ((7 * f + i).toNat) := by rw [hm59]; rfl
                  have w62 : m59.1 51 0 f.toNat = m51.1 51 0 f.toNat := by rw [hm59]; rfl
                  have w63 : m59.1 52 0 f.toNat = m51.1 52 0 f.toNat := by rw [hm59]; rfl
                  have hRm59 : zRI m59 := by rw [hm59]; exact zRI_w57 (p := f) (i := i) hRm51 (by omega) (by omega)
                  have hho : zHo m0 m59 (7 * f + i) := fun j hj => by
                    rw [hm59, wuI_at (by omega) hj, hm51, hm27, hm21]
                    show (if j = 7 * f + i then (1 : Int) else m17.1 57 0 j.toNat) = _
                    rw [(hr16).1.1 j hj]
                    by_cases z : j = 7 * f + i
                    · rw [if_pos z, if_pos z]
                    · rw [if_neg z, if_neg z, if_neg z]
                  have hs54 : ∀ j : Int, 0 ≤ j → m59.1 54 0 j.toNat = if j = 7 * f + i then m0.1 54 0 (7 * g + k).toNat else m0.1 54 0 j.toNat := fun j hj => by
                    rw [hm59, hm51, hm27, hm21]
                    show (wuI m17 54 0 (7 * f + i).toNat (m17.1 54 0 (7 * g + k).toNat)).1 54 0 j.toNat = _
                    rw [wuI_at (by omega) hj, zf2]
                    by_cases z : j = 7 * f + i
                    · rw [if_pos z, if_pos z]
                    · rw [if_neg z, if_neg z, (hr16).1.2.1 j hj, if_neg z]
                  have hs55 : ∀ j : Int, 0 ≤ j → m59.1 55 0 j.toNat = if j = 2 * (7 * f + i) + 1 then (if 64 < m0.1 54 0 (7 * g + k).toNat then 1 else 0) else if j = 2 * (7 * f + i) then 1 else m0.1 55 0 j.toNat := fun j hj => by
                    rw [hm59]
                    show m51.1 55 0 j.toNat = _
                    rw [hm51, wuI_at (by omega) hj, hm27, wuI_at (by omega) hj, hm21]
                    show (if j = 2 * (7 * f + i) + 1 then (1 : Int) else if j = 2 * (7 * f + i) then (1 : Int) else m17.1 55 0 j.toNat) = _
                    rw [(hr16).1.2.2 j hj]
                    by_cases z : j = 2 * (7 * f + i) + 1
                    · rw [if_pos z, if_pos z]; first | (rw [if_pos (by omega)]; done) | (rw [if_neg (by omega)]; done)
                    · rw [if_neg z, if_neg z]; by_cases z2 : j = 2 * (7 * f + i); (rw [if_pos z2, if_pos z2]); (rw [if_neg z2, if_neg z2, if_neg (by omega)])
                  have hsL : zLR m59 = (zLR m0).filter (zkq (7 * f + i) (7 * f + i) (-1)) := by rw [hm59, hm51, hm27, hm21]; exact hr16.2
                  have hs56 : ∀ j : Int, 0 ≤ j → (j < 104 * (7 * f + i) ∨ 104 * (7 * f + i) + 104 ≤ j) → m59.1 56 0 j.toNat = m0.1 56 0 j.toNat := fun j _ _ => by rw [hm59, hm51, hm27, hm21]; exact (hEm17 56 0 j.toNat (show ¬ ((56 = 58) ∨ (56 = 59) ∨ (56 = 60) ∨ (56 = 61) ∨ (56 = 34 ∧ j.toNat = 30) ∨ (56 = 54) ∨ (56 = 55) ∨ (56 = 57)) from by omega)).1
                  have hal : zAl m0 f i g k := ⟨by omega, (by have z9 := hr7.1; omega), hr10.symm.trans (((wlcmp_rg r9 r11).2.2.1 (by omega)).trans hr12)⟩
                  refine ww_go 2 (pc' := 165) (L' := [(7, .inl 0), (6, .inl ((7 * g) + k)), (0, .inr (.inr (.inl (some (34, 0))))), (1, .inl f), (2, .inl i), (3, .inl (7 * f + i)), (4, .inl g), (5, .inl k)]) (st' := []) (m' := m59) (o := none) rfl trivial ?_
                  refine ww_sub (L := [(0, .inr (.inr (.inl (some (34, 0))))), (1, .inl f), (2, .inl i), (3, .inl (7 * f + i)), (6, .inl ((7 * g) + k)), (7, .inl 0)]) ⟨rfl, rfl, rfl, rfl, rfl, rfl, trivial⟩ rfl rfl ?_
                  exact (yt183_l165 hc f i hG hR h0 _) ((7 * g) + k) 0 m59 rfl (zB_mono hGm59 (by omega)) hFm59 hRm59 (by omega) (by exact ⟨hho, hsL, g, k, by omega, hal, hs54, hs55, hs56⟩)
              · show wW (zK sc) zM183 96 [(6, .inl ((7 * g) + k)), (0, .inr (.inr (.inl (some (34, 0))))), (1, .inl f), (2, .inl i), (3, .inl (7 * f + i)), (4, .inl g), (5, .inl k)] [] _ _ _
                refine ww_go 3 (pc' := 29) (L' := [(5, .inl (k + 1)), (6, .inl ((7 * g) + k)), (0, .inr (.inr (.inl (some (34, 0))))), (1, .inl f), (2, .inl i), (3, .inl (7 * f + i)), (4, .inl g)]) (st' := []) (m' := m0) (o := none) rfl trivial ?_
                refine ww_sub (L := [(0, .inr (.inr (.inl (some (34, 0))))), (1, .inl f), (2, .inl i), (3, .inl (7 * f + i)), (4, .inl g), (5, .inl (k + 1))]) ⟨rfl, rfl, rfl, rfl, rfl, rfl, trivial⟩ rfl rfl ?_
                exact (ih _ (by omega)).2 g (k + 1) rfl (by omega) (by exact hn9) (by exact fun k9 z1 z2 z3 => (Decidable.em (k9 < k)).elim (fun z => hk9 k9 z1 z2 z) (fun z z9 => (by rw [show k9 = k from by omega] at z9; exact (by have z8 := (wlcmp_rg r9 r11).2.2.2 ((hr10.trans z9.2.2).trans hr12.symm); omega))))
set_option maxRecDepth 8000 in
/-- Mo.borrows -/
theorem yt183 {sc : xSc} {n : Nat × Nat} {m0 : wm} {c : Int} (hc : 0 ≤ c ∧ c ≤ 1000000) (f : Int) (i : Int) (hG : zB c m0) (hR : zRI m0) (h0 : 0 ≤ f ∧ f ≤ 7 ∧ 1 ≤ i ∧ i ≤ m0.1 52 0 f.toNat ∧ m0.1 51 0 f.toNat = 1 ∧ m0.1 57 0 (7 * f + i).toNat ≠ 1) : wX (zK sc) 183 [.inr (.inr (.inl (some (34, 0)))), .inl f, .inl i] n m0 (wr (fun vv n1 m1 => ∃ r : Int, vv = some (.inl r) ∧ n = n1 ∧ zB c m1 ∧ zfr (fun k i j => (k = 58) ∨ (k = 59) ∨ (k = 60) ∨ (k = 61) ∨ (k = 34 ∧ j = 30) ∨ (k = 54) ∨ (k = 55) ∨ (k = 57) ∨ (k = 56)) m0 m1 ∧ (zRI m1 ∧ ((r = 0 ∧ m0 = m1 ∧ zBz m0 f i) ∨ (r = 1 ∧ zHo m0 m1 (7 * f + i) ∧ zBo m0 m1 f i))))) := by
  refine wX_of (N := zM183) rfl (Nat.le_of_ble_eq_true rfl) ?_
  show wW (zK sc) zM183 0 [(0, .inr (.inr (.inl (some (34, 0))))), (1, .inl f), (2, .inl i)] [] n m0 _
  have hF : zfr (fun k i j => (k = 58) ∨ (k = 59) ∨ (k = 60) ∨ (k = 61) ∨ (k = 34 ∧ j = 30) ∨ (k = 54) ∨ (k = 55) ∨ (k = 57) ∨ (k = 56)) m0 m0 := zfr_rf
  have t0 : f.tdiv 4 = f / 4 := Int.tdiv_eq_ediv_of_nonneg (by omega)
  have bc : 0 ≤ m0.1 52 0 f.toNat ∧ m0.1 52 0 f.toNat ≤ 6 := hG.1 52 _ rfl _ _
  have t1 : (0 ≤ f → f.tdiv 4 = f / 4) ∧ (f < 0 → f.tdiv 4 = -((-f) / 4)) := ⟨fun z => Int.tdiv_eq_ediv_of_nonneg z, fun z => wtdiv_neg z⟩
  refine ww_go 12 (pc' := 14) (L' := [(4, .inl ((f.tdiv 4) * 4)), (3, .inl ((7 * f) + i)), (0, .inr (.inr (.inl (some (34, 0))))), (1, .inl f), (2, .inl i)]) (st' := []) (m' := m0) (o := some ((-2147483648 ≤ f ∧ f ≤ 2147483647 ∧ 0 < (4 : Int) ∧ (4 : Int) ≤ 2147483647))) rfl (show (-2147483648 ≤ f ∧ f ≤ 2147483647 ∧ 0 < (4 : Int) ∧ (4 : Int) ≤ 2147483647) from by omega) ?_
  refine ww_sub (L := [(0, .inr (.inr (.inl (some (34, 0))))), (1, .inl f), (2, .inl i), (3, .inl ((7 * f) + i)), (4, .inl ((f.tdiv 4) * 4))]) ⟨rfl, rfl, rfl, rfl, rfl, trivial⟩ rfl rfl ?_
  exact (yt183_l14 hc f i hG hR h0 _).1 ((f.tdiv 4) * 4) rfl (by omega) (by exact fun g9 k9 z1 z2 => absurd z2 (by omega))
set_option maxRecDepth 8000 in
theorem yt243_l2 {sc : xSc} {n : Nat × Nat} {m0 : wm} {c : Int} (hc : 0 ≤ c ∧ c ≤ 1000000) (f : Int) (hG : zB c m0) (hR : zRI m0) (h0 : 0 ≤ f ∧ f ≤ 1) : ∀ (d : Nat), (∀ (w : Int) (m : wm), zcn m * 1000 + w.toNat * 999 = d → zB c m → zfr (fun k i j => (k = 58) ∨ (k = 59) ∨ (k = 60) ∨ (k = 61) ∨ (k = 34 ∧ j = 30) ∨ (k = 54) ∨ (k = 55) ∨ (k = 57) ∨ (k = 56)) m0 m → zRI m → (0 ≤ w ∧ w ≤ 1) → (zBk f m0 m) → (w = 0 → zBcl m f) →  wW (zK sc) zM243 2 [(0, .inr (.inr (.inl (some (34, 0))))), (1, .inl f), (2, .inl w)] [] n m (wr (fun vv n1 m1 => vv = none ∧ n = n1 ∧ zB c m1 ∧ zfr (fun k i j => (k = 58) ∨ (k = 59) ∨ (k = 60) ∨ (k = 61) ∨ (k = 34 ∧ j = 30) ∨ (k = 54) ∨ (k = 55) ∨ (k = 57) ∨ (k = 56)) m0 m1 ∧ (zRI m1 ∧ (zBk f m0 m1 ∧ zBcl m1 f))))) ∧ (∀ (w : Int) (g : Int) (Z0 : Nat) (m : wm), Z0 * 1000 + (4 * f + 4 - g).toNat * 100 + 99 = d → zB c m → zfr (fun k i j => (k = 58) ∨ (k = 59) ∨ (k = 60) ∨ (k = 61) ∨ (k = 34 ∧ j = 30) ∨ (k = 54) ∨ (k = 55) ∨ (k = 57) ∨ (k = 56)) m0 m → zRI m → (0 ≤ w ∧ w ≤ 1 ∧ 4 * f ≤ g ∧ g ≤ 4 * f + 4) → (zcn m ≤ Z0 ∧ (w = 1 → zcn m < Z0)) → (zBk f m0 m) → (w = 0 → zBvx m f g 1) →  wW (zK sc) zM243 12 [(0, .inr (.inr (.inl (some (34, 0))))), (1, .inl f), (2, .inl w), (3, .inl g)] [] n m (wr (fun vv n1 m1 => vv = none ∧ n = n1 ∧ zB c m1 ∧ zfr (fun k i j => (k = 58) ∨ (k = 59) ∨ (k = 60) ∨ (k = 61) ∨ (k = 34 ∧ j = 30) ∨ (k = 54) ∨ (k = 55) ∨ (k = 57) ∨ (k = 56)) m0 m1 ∧ (zRI m1 ∧ (zBk f m0 m1 ∧ zBcl m1 f))))) ∧ (∀ (w : Int) (g : Int) (i : Int) (Z0 : Nat) (m : wm), Z0 * 1000 + (4 * f + 4 - g).toNat * 100 + (7 - i).toNat = d → zB c m → zfr (fun k i j => (k = 58) ∨ (k = 59) ∨ (k = 60) ∨ (k = 61) ∨ (k = 34 ∧ j = 30) ∨ (k = 54) ∨ (k = 55) ∨ (k = 57) ∨ (k = 56)) m0 m → zRI m → (0 ≤ w ∧ w ≤ 1 ∧ 4 * f ≤ g ∧ g ≤ 4 * f + 3 ∧ 1 ≤ i ∧ i ≤ 7) → (zcn m ≤ Z0 ∧ (w = 1 → zcn m < Z0)) → (zBk f m0 m) → (w = 0 → zBvx m f g i) →  wW (zK sc) zM243 24 [(0, .inr (.inr (.inl (some (34, 0))))), (1, .inl f), (2, .inl w), (3, .inl g), (4, .inl i)] [] n m (wr (fun vv n1 m1 => vv = none ∧ n = n1 ∧ zB c m1 ∧ zfr (fun k i j => (k = 58) ∨ (k = 59) ∨ (k = 60) ∨ (k = 61) ∨ (k = 34 ∧ j = 30) ∨ (k = 54) ∨ (k = 55) ∨ (k = 57) ∨ (k = 56)) m0 m1 ∧ (zRI m1 ∧ (zBk f m0 m1 ∧ zBcl m1 f))))) := by
  intro d
  induction d using Nat.strongRecOn with
  | ind d ih =>
    refine ⟨?_, ?_, ?_⟩
    · intro w m hd hGm hFm hRm hi hk9 hv9
      refine ww_go 1 (pc' := 3) (L' := [(0, .inr (.inr (.inl (some (34, 0))))), (1, .inl f), (2, .inl w)]) (st' := [.inl w]) (m' := m) (o := none) rfl trivial ?_
      refine ww_if (t := 94) rfl rfl (by omega) (fun (h1 : w = 0) => ?_) (fun (h1 : ¬ (w = 0)) => ?_)
      · show wW (zK sc) zM243 94 [(0, .inr (.inr (.inl (some (34, 0))))), (1, .inl f), (2, .inl w)] [] _ _ _
        exact ww_rV rfl rfl ⟨rfl, rfl, zB_mono hGm (by omega), hFm, ⟨hRm, ⟨hk9, hv9 (by omega)⟩⟩⟩
      · show wW (zK sc) zM243 6 [(0, .inr (.inr (.inl (some (34, 0))))), (1, .inl f), (2, .inl w)] [] _ _ _
        refine ww_go 6 (pc' := 12) (L' := [(3, .inl (4 * f)), (2, .inl 0), (0, .inr (.inr (.inl (some (34, 0))))), (1, .inl f)]) (st' := []) (m' := m) (o := none) rfl trivial ?_
        refine ww_sub (L := [(0, .inr (.inr (.inl (some (34, 0))))), (1, .inl f), (2, .inl 0), (3, .inl (4 * f))]) ⟨rfl, rfl, rfl, rfl, trivial⟩ rfl rfl ?_
        exact (ih _ (by omega)).2.1 0 (4 * f) (zcn m) m rfl (zB_mono hGm (by omega)) hFm hRm (by omega) (by omega) (by exact hk9) (by exact fun _ => zBvx_0)
    · intro w g Z0 m hd hGm hFm hRm hi hz hk9 hv9
      refine ww_go 6 (pc' := 18) (L' := [(0, .inr (.inr (.inl (some (34, 0))))), (1, .inl f), (2, .inl w), (3, .inl g)]) (st' := [.inl ((4 * f) + 4), .inl g]) (m' := m) (o := none) rfl trivial ?_
      refine ww_ic (t := 91) rfl rfl (by omega) (fun (h1 : (4 * f) + 4 ≤ g) => ?_) (fun (h1 : ¬ ((4 * f) + 4 ≤ g)) => ?_)
      · show wW (zK sc) zM243 91 [(0, .inr (.inr (.inl (some (34, 0))))), (1, .inl f), (2, .inl w), (3, .inl g)] [] _ _ _
        refine ww_go 1 (pc' := 2) (L' := [(0, .inr (.inr (.inl (some (34, 0))))), (1, .inl f), (2, .inl w), (3, .inl g)]) (st' := []) (m' := m) (o := none) rfl trivial ?_
        refine ww_sub (L := [(0, .inr (.inr (.inl (some (34, 0))))), (1, .inl f), (2, .inl w)]) ⟨rfl, rfl, rfl, trivial⟩ rfl rfl ?_
        exact (ih _ (by omega)).1 w m rfl (zB_mono hGm (by omega)) hFm hRm (by omega) (by exact hk9) (by exact fun z9 => zBvx_4 (hv9 z9) (by omega))
      · show wW (zK sc) zM243 21 [(0, .inr (.inr (.inl (some (34, 0))))), (1, .inl f), (2, .inl w), (3, .inl g)] [] _ _ _
        refine ww_go 2 (pc' := 24) (L' := [(4, .inl 1), (0, .inr (.inr (.inl (some (34, 0))))), (1, .inl f), (2, .inl w), (3, .inl g)]) (st' := []) (m' := m) (o := none) rfl trivial ?_
        refine ww_sub (L := [(0, .inr (.inr (.inl (some (34, 0))))), (1, .inl f), (2, .inl w), (3, .inl g), (4, .inl 1)]) ⟨rfl, rfl, rfl, rfl, rfl, trivial⟩ rfl rfl ?_
        exact (ih _ (by omega)).2.2 w g 1 Z0 m rfl (zB_mono hGm (by omega)) hFm hRm (by omega) (by omega) (by exact hk9) (by exact hv9)
    · intro w g i Z0 m hd hGm hFm hRm hi hz hk9 hv9
      have b1 : 0 ≤ m.1 51 0 g.toNat ∧ m.1 51 0 g.toNat ≤ 1 := hGm.1 51 _ rfl _ _
      refine ww_go 4 (pc' := 30) (L' := [(0, .inr (.inr (.inl (some (34, 0))))), (1, .inl f), (2, .inl w), (3, .inl g), (4, .inl i)]) (st' := [.inl (m.1 51 0 g.toNat)]) (m' := m) (o := some ((0 < 1) ∧ (0 < 1 ∧ 0 ≤ g ∧ g < ((8 : Nat) : Int)))) rfl (show (0 < 1) ∧ (0 < 1 ∧ 0 ≤ g ∧ g < ((8 : Nat) : Int)) from by omega) ?_
      refine ww_if (t := 85) rfl rfl (by omega) (fun (h2 : m.1 51 0 g.toNat = 0) => ?_) (fun (h2 : ¬ (m.1 51 0 g.toNat = 0)) => ?_)
      · show wW (zK sc) zM243 85 [(0, .inr (.inr (.inl (some (34, 0))))), (1, .inl f), (2, .inl w), (3, .inl g), (4, .inl i)] [] _ _ _
        refine ww_go 2 (pc' := 12) (L' := [(3, .inl (g + 1)), (0, .inr (.inr (.inl (some (34, 0))))), (1, .inl f), (2, .inl w), (4, .inl i)]) (st' := []) (m' := m) (o := none) rfl trivial ?_
        refine ww_sub (L := [(0, .inr (.inr (.inl (some (34, 0))))), (1, .inl f), (2, .inl w), (3, .inl (g + 1))]) ⟨rfl, rfl, rfl, rfl, trivial⟩ rfl rfl ?_
        exact (ih _ (by omega)).2.1 w (g + 1) Z0 m rfl (zB_mono hGm (by omega)) hFm hRm (by omega) (by omega) (by exact hk9) (by exact fun z9 => zBvx_n (hv9 z9) (by omega))
      · show wW (zK sc) zM243 33 [(0, .inr (.inr (.inl (some (34, 0))))), (1, .inl f), (2, .inl w), (3, .inl g), (4, .inl i)] [] _ _ _
        have b3 : 0 ≤ m.1 52 0 g.toNat ∧ m.1 52 0 g.toNat ≤ 6 := hGm.1 52 _ rfl _ _
        refine ww_go 5 (pc' := 41) (L' := [(0, .inr (.inr (.inl (some (34, 0))))), (1, .inl f), (2, .inl w), (3, .inl g), (4, .inl i)]) (st' := [.inl (m.1 52 0 g.toNat), .inl i]) (m' := m) (o := some ((0 < 1) ∧ (0 < 1 ∧ 0 ≤ g ∧ g < ((8 : Nat) : Int)))) rfl (show (0 < 1) ∧ (0 < 1 ∧ 0 ≤ g ∧ g < ((8 : Nat) : Int)) from by omega) ?_
        refine ww_ic (t := 85) rfl rfl (by omega) (fun (h4 : m.1 52 0 g.toNat < i) => ?_) (fun (h4 : ¬ (m.1 52 0 g.toNat < i)) => ?_)
        · show wW (zK sc) zM243 85 [(0, .inr (.inr (.inl (some (34, 0))))), (1, .inl f), (2, .inl w), (3, .inl g), (4, .inl i)] [] _ _ _
          refine ww_go 2 (pc' := 12) (L' := [(3, .inl (g + 1)), (0, .inr (.inr (.inl (some (34, 0))))), (1, .inl f), (2, .inl w), (4, .inl i)]) (st' := []) (m' := m) (o := none) rfl trivial ?_
          refine ww_sub (L := [(0, .inr (.inr (.inl (some (34, 0))))), (1, .inl f), (2, .inl w), (3, .inl (g + 1))]) ⟨rfl, rfl, rfl, rfl, trivial⟩ rfl rfl ?_
          exact (ih _ (by omega)).2.1 w (g + 1) Z0 m rfl (zB_mono hGm (by omega)) hFm hRm (by omega) (by omega) (by exact hk9) (by exact fun z9 => zBvx_n (hv9 z9) (by omega))
        · show wW (zK sc) zM243 44 [(0, .inr (.inr (.inl (some (34, 0))))), (1, .inl f), (2, .inl w), (3, .inl g), (4, .inl i)] [] _ _ _
          have b5 : 0 ≤ m.1 57 0 (((7 * g) + i).toNat) ∧ m.1 57 0 (((7 * g) + i).toNat) ≤ 1 := hGm.1 57 _ rfl _ _
          refine ww_go 8 (pc' := 56) (L' := [(0, .inr (.inr (.inl (some (34, 0))))), (1, .inl f), (2, .inl w), (3, .inl g), (4, .inl i)]) (st' := [.inl (m.1 57 0 (((7 * g) + i).toNat))]) (m' := m) (o := some ((0 < 1) ∧ (0 < 1 ∧ 0 ≤ (7 * g) + i ∧ (7 * g) + i < ((56 : Nat) : Int)))) rfl (show (0 < 1) ∧ (0 < 1 ∧ 0 ≤ (7 * g) + i ∧ (7 * g) + i < ((56 : Nat) : Int)) from by omega) ?_
          refine ww_if (t := 69) rfl rfl (by omega) (fun (h6 : m.1 57 0 (((7 * g) + i).toNat) ≠ 0) => ?_) (fun (h6 : ¬ (m.1 57 0 (((7 * g) + i).toNat) ≠ 0)) => ?_)
          · show wW (zK sc) zM243 69 [(0, .inr (.inr (.inl (some (34, 0))))), (1, .inl f), (2, .inl w), (3, .inl g), (4, .inl i)] [] _ _ _
            refine ww_go 1 (pc' := 70) (L' := [(0, .inr (.inr (.inl (some (34, 0))))), (1, .inl f), (2, .inl w), (3, .inl g), (4, .inl i)]) (st' := [.inl w]) (m' := m) (o := none) rfl trivial ?_
            refine ww_if (t := 77) rfl rfl (by omega) (fun (h7 : w = 0) => ?_) (fun (h7 : ¬ (w = 0)) => ?_)
            · show wW (zK sc) zM243 77 [(0, .inr (.inr (.inl (some (34, 0))))), (1, .inl f), (2, .inl w), (3, .inl g), (4, .inl i)] [] _ _ _
              refine ww_go 4 (pc' := 24) (L' := [(4, .inl (i + 1)), (2, .inl 0), (0, .inr (.inr (.inl (some (34, 0))))), (1, .inl f), (3, .inl g)]) (st' := []) (m' := m) (o := none) rfl trivial ?_
              refine ww_sub (L := [(0, .inr (.inr (.inl (some (34, 0))))), (1, .inl f), (2, .inl 0), (3, .inl g), (4, .inl (i + 1))]) ⟨rfl, rfl, rfl, rfl, rfl, trivial⟩ rfl rfl ?_
              exact (ih _ (by omega)).2.2 0 g (i + 1) Z0 m rfl (zB_mono hGm (by omega)) hFm hRm (by omega) (by omega) (by exact hk9) (by exact fun z9 => zBvx_s (hv9 (by omega)) (Or.inl (by omega)))
            · show wW (zK sc) zM243 73 [(0, .inr (.inr (.inl (some (34, 0))))), (1, .inl f), (2, .inl w), (3, .inl g), (4, .inl i)] [] _ _ _
              refine ww_go 5 (pc' := 24) (L' := [(4, .inl (i + 1)), (2, .inl 1), (0, .inr (.inr (.inl (some (34, 0))))), (1, .inl f), (3, .inl g)]) (st' := []) (m' := m) (o := none) rfl trivial ?_
              refine ww_sub (L := [(0, .inr (.inr (.inl (some (34, 0))))), (1, .inl f), (2, .inl 1), (3, .inl g), (4, .inl (i + 1))]) ⟨rfl, rfl, rfl, rfl, rfl, trivial⟩ rfl rfl ?_
              exact (ih _ (by omega)).2.2 1 g (i + 1) Z0 m rfl (zB_mono hGm (by omega)) hFm hRm (by omega) (by omega) (by exact hk9) (by exact fun z9 => zBvx_s (hv9 (by omega)) (Or.inl (by omega)))
          · show wW (zK sc) zM243 59 [(0, .inr (.inr (.inl (some (34, 0))))), (1, .inl f), (2, .inl w), (3, .inl g), (4, .inl i)] [] _ _ _
            refine ww_go 3 (pc' := 63) (L' := [(0, .inr (.inr (.inl (some (34, 0))))), (1, .inl f), (2, .inl w), (3, .inl g), (4, .inl i)]) (st' := [.inl i, .inl g, .inr (.inr (.inl (some (34, 0))))]) (m' := m) (o := none) rfl trivial ?_
            refine ww_call (vs := [.inr (.inr (.inl (some (34, 0)))), .inl g, .inl i]) (r := []) (p := 0 < 1) rfl rfl rfl rfl (show 0 < 1 from by omega) (yt183 (c := c) (by omega) g i hGm hRm (by omega)) ?_
            rintro _ _ m10 ⟨r8, rfl, rfl, hGm10, hEm10, hRm10, hr9⟩
            have hFm10 : zfr (fun k i j => (k = 58) ∨ (k = 59) ∨ (k = 60) ∨ (k = 61) ∨ (k = 34 ∧ j = 30) ∨ (k = 54) ∨ (k = 55) ∨ (k = 57) ∨ (k = 56)) m0 m10 := zfr_tr hFm hEm10 (fun k i j z => Or.elim z (fun z => Or.inl z) (fun z => Or.elim z (fun z => Or.inr (Or.inl z)) (fun z => Or.elim z (fun z => Or.inr (Or.inr (Or.inl z))) (fun z => Or.elim z (fun z => Or.inr (Or.inr (Or.inr (Or.inl z)))) (fun z => Or.elim z (fun z => Or.inr (Or.inr (Or.inr (Or.inr (Or.inl z))))) (fun z => Or.elim z (fun z => Or.inr (Or.inr (Or.inr (Or.inr (Or.inr (Or.inl z)))))) (fun z => Or.elim z (fun z => Or.inr (Or.inr (Or.inr (Or.inr (Or.inr (Or.inr (Or.inl z))))))) (fun z => Or.elim z (fun z => Or.inr (Or.inr (Or.inr (Or.inr (Or.inr (Or.inr (Or.inr (Or.inl z)))))))) (fun z => Or.inr (Or.inr (Or.inr (Or.inr (Or.inr (Or.inr (Or.inr (Or.inr (z)))))))))))))))))
            show wW (zK sc) zM243 66 [(0, .inr (.inr (.inl (some (34, 0))))), (1, .inl f), (2, .inl w), (3, .inl g), (4, .inl i)] [.inl r8] _ _ _
            have z11 := (hr9).imp (fun z => (⟨z.1, zcn_eq (congrArg (fun z : wm => z.1 57 0) z.2.1).symm⟩ : r8 = 0 ∧ zcn m10 = zcn m)) (fun z => (⟨z.1, zcn_lt z.2.1 (by omega) (by omega)⟩ : r8 = 1 ∧ zcn m10 + 1 = zcn m))
            refine ww_if (t := 73) rfl rfl (by omega) (fun (h12 : r8 ≠ 0) => ?_) (fun (h12 : ¬ (r8 ≠ 0)) => ?_)
            · show wW (zK sc) zM243 73 [(0, .inr (.inr (.inl (some (34, 0))))), (1, .inl f), (2, .inl w), (3, .inl g), (4, .inl i)] [] _ _ _
              refine ww_go 5 (pc' := 24) (L' := [(4, .inl (i + 1)), (2, .inl 1), (0, .inr (.inr (.inl (some (34, 0))))), (1, .inl f), (3, .inl g)]) (st' := []) (m' := m10) (o := none) rfl trivial ?_
              refine ww_sub (L := [(0, .inr (.inr (.inl (some (34, 0))))), (1, .inl f), (2, .inl 1), (3, .inl g), (4, .inl (i + 1))]) ⟨rfl, rfl, rfl, rfl, rfl, trivial⟩ rfl rfl ?_
              exact (ih _ (by omega)).2.2 1 g (i + 1) Z0 m10 rfl (zB_mono hGm10 (by omega)) hFm10 hRm10 (by omega) (by omega) (by exact hr9.elim (fun z => (by rw [← z.2.1]; exact hk9)) (fun z => zBk_st hk9 ⟨by omega, by omega, by omega, by omega, by omega⟩ z.2.2)) (by exact fun z9 => hr9.elim (fun z => (by rw [← z.2.1]; exact zBvx_s (hv9 (by omega)) z.2.2)) (fun z => absurd z.1 (by omega)))
            · show wW (zK sc) zM243 69 [(0, .inr (.inr (.inl (some (34, 0))))), (1, .inl f), (2, .inl w), (3, .inl g), (4, .inl i)] [] _ _ _
              refine ww_go 1 (pc' := 70) (L' := [(0, .inr (.inr (.inl (some (34, 0))))), (1, .inl f), (2, .inl w), (3, .inl g), (4, .inl i)]) (st' := [.inl w]) (m' := m10) (o := none) rfl trivial ?_
              refine ww_if (t := 77) rfl rfl (by omega) (fun (h13 : w = 0) => ?_) (fun (h13 : ¬ (w = 0)) => ?_)
              · show wW (zK sc) zM243 77 [(0, .inr (.inr (.inl (some (34, 0))))), (1, .inl f), (2, .inl w), (3, .inl g), (4, .inl i)] [] _ _ _
                refine ww_go 4 (pc' := 24) (L' := [(4, .inl (i + 1)), (2, .inl 0), (0, .inr (.inr (.inl (some (34, 0))))), (1, .inl f), (3, .inl g)]) (st' := []) (m' := m10) (o := none) rfl trivial ?_
                refine ww_sub (L := [(0, .inr (.inr (.inl (some (34, 0))))), (1, .inl f), (2, .inl 0), (3, .inl g), (4, .inl (i + 1))]) ⟨rfl, rfl, rfl, rfl, rfl, trivial⟩ rfl rfl ?_
                exact (ih _ (by omega)).2.2 0 g (i + 1) Z0 m10 rfl (zB_mono hGm10 (by omega)) hFm10 hRm10 (by omega) (by omega) (by exact hr9.elim (fun z => (by rw [← z.2.1]; exact hk9)) (fun z => zBk_st hk9 ⟨by omega, by omega, by omega, by omega, by omega⟩ z.2.2)) (by exact fun z9 => hr9.elim (fun z => (by rw [← z.2.1]; exact zBvx_s (hv9 (by omega)) z.2.2)) (fun z => absurd z.1 (by omega)))
              · show wW (zK sc) zM243 73 [(0, .inr (.inr (.inl (some (34, 0))))), (1, .inl f), (2, .inl w), (3, .inl g), (4, .inl i)] [] _ _ _
                refine ww_go 5 (pc' := 24) (L' := [(4, .inl (i + 1)), (2, .inl 1), (0, .inr (.inr (.inl (some (34, 0))))), (1, .inl f), (3, .inl g)]) (st' := []) (m' := m10) (o := none) rfl trivial ?_
                refine ww_sub (L := [(0, .inr (.inr (.inl (some (34, 0))))), (1, .inl f), (2, .inl 1), (3, .inl g), (4, .inl (i + 1))]) ⟨rfl, rfl, rfl, rfl, rfl, trivial⟩ rfl rfl ?_
                exact (ih _ (by omega)).2.2 1 g (i + 1) Z0 m10 rfl (zB_mono hGm10 (by omega)) hFm10 hRm10 (by omega) (by omega) (by exact hr9.elim (fun z => (by rw [← z.2.1]; exact hk9)) (fun z => zBk_st hk9 ⟨by omega, by omega, by omega, by omega, by omega⟩ z.2.2)) (by exact fun z9 => hr9.elim (fun z => (by rw [← z.2.1]; exact zBvx_s (hv9 (by omega)) z.2.2)) (fun z => absurd z.1 (by omega)))
set_option maxRecDepth 8000 in
/-- Mo.share -/
theorem yt243 {sc : xSc} {n : Nat × Nat} {m0 : wm} {c : Int} (hc : 0 ≤ c ∧ c ≤ 1000000) (f : Int) (hG : zB c m0) (hR : zRI m0) (h0 : 0 ≤ f ∧ f ≤ 1) : wX (zK sc) 243 [.inr (.inr (.inl (some (34, 0)))), .inl f] n m0 (wr (fun vv n1 m1 => vv = none ∧ n = n1 ∧ zB c m1 ∧ zfr (fun k i j => (k = 58) ∨ (k = 59) ∨ (k = 60) ∨ (k = 61) ∨ (k = 34 ∧ j = 30) ∨ (k = 54) ∨ (k = 55) ∨ (k = 57) ∨ (k = 56)) m0 m1 ∧ (zRI m1 ∧ (zBk f m0 m1 ∧ zBcl m1 f)))) := by
  refine wX_of (N := zM243) rfl (Nat.le_of_ble_eq_true rfl) ?_
  show wW (zK sc) zM243 0 [(0, .inr (.inr (.inl (some (34, 0))))), (1, .inl f)] [] n m0 _
  have hF : zfr (fun k i j => (k = 58) ∨ (k = 59) ∨ (k = 60) ∨ (k = 61) ∨ (k = 34 ∧ j = 30) ∨ (k = 54) ∨ (k = 55) ∨ (k = 57) ∨ (k = 56)) m0 m0 := zfr_rf
  refine ww_go 2 (pc' := 2) (L' := [(2, .inl 1), (0, .inr (.inr (.inl (some (34, 0))))), (1, .inl f)]) (st' := []) (m' := m0) (o := none) rfl trivial ?_
  refine ww_sub (L := [(0, .inr (.inr (.inl (some (34, 0))))), (1, .inl f), (2, .inl 1)]) ⟨rfl, rfl, rfl, trivial⟩ rfl rfl ?_
  exact (yt243_l2 hc f hG hR h0 _).1 1 m0 rfl (zB_mono hG (by omega)) hF hR (by omega) (by exact zBk_rf) (by exact fun z9 => absurd z9 (by omega))
