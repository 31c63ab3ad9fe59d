set_option maxRecDepth 8000 in
theorem zs224_l62 {sc : xSc} {n : Nat × Nat} {m0 : wm} {c : Int} (hc : 0 ≤ c ∧ c ≤ 1000000) (fr : Int) (to : Int) (hG : zB c m0) (h0 : 0 ≤ fr ∧ fr ≤ 11 ∧ 0 ≤ to ∧ to ≤ 11 ∧ fr ≠ to) : ∀ (d : Nat), ∀ (k : Int) (m : wm), (96 - k).toNat = d → zB c m → zfr (fun k i j => (k = 38 ∧ j = to.toNat) ∨ (k = 40 ∧ j = to.toNat) ∨ (k = 39 ∧ 6 * to.toNat ≤ j ∧ j < 6 * to.toNat + 6) ∨ (k = 41 ∧ 96 * to.toNat ≤ j ∧ j < 96 * to.toNat + 96)) m0 m → (0 ≤ k ∧ k ≤ 96) → (m.1 38 0 to.toNat = m0.1 38 0 fr.toNat ∧ m.1 40 0 to.toNat = m0.1 40 0 fr.toNat) → (∀ j : Nat, (j : Int) < 6 → m.1 39 0 (6 * to.toNat + j) = m0.1 39 0 (6 * fr.toNat + j)) → (∀ j : Nat, (j : Int) < k → m.1 41 0 (96 * to.toNat + j) = m0.1 41 0 (96 * fr.toNat + j)) →  wW (zK sc) zM224 62 [(0, .inr (.inr (.inl (some (34, 0))))), (1, .inl fr), (2, .inl to), (3, .inl k)] [] n m (wr (fun vv n1 m1 => vv = none ∧ n = n1 ∧ zB c m1 ∧ zfr (fun k i j => (k = 38 ∧ j = to.toNat) ∨ (k = 40 ∧ j = to.toNat) ∨ (k = 39 ∧ 6 * to.toNat ≤ j ∧ j < 6 * to.toNat + 6) ∨ (k = 41 ∧ 96 * to.toNat ≤ j ∧ j < 96 * to.toNat + 96)) m0 m1 ∧ (zFR m1 to.toNat = zFR m0 fr.toNat))) := by
  intro d
  induction d using Nat.strongRecOn with
  | ind d ih =>
    intro k m hd hGm hFm hk hs hz hd
    have b1 : 0 ≤ m0.1 38 0 fr.toNat ∧ m0.1 38 0 fr.toNat ≤ 6 := hG.1 38 _ rfl _ _
    have b2 : 0 ≤ m0.1 40 0 fr.toNat ∧ m0.1 40 0 fr.toNat ≤ 96 := hG.1 40 _ rfl _ _
    refine ww_go 2 (pc' := 65) (L' := [(0, .inr (.inr (.inl (some (34, 0))))), (1, .inl fr), (2, .inl to), (3, .inl k)]) (st' := [.inl 96, .inl k]) (m' := m) (o := none) rfl trivial ?_
    refine ww_ic (t := 96) rfl rfl (by omega) (fun (h1 : 96 ≤ k) => ?_) (fun (h1 : ¬ (96 ≤ k)) => ?_)
    · show wW (zK sc) zM224 96 [(0, .inr (.inr (.inl (some (34, 0))))), (1, .inl fr), (2, .inl to), (3, .inl k)] [] _ _ _
      exact ww_rV rfl rfl ⟨rfl, rfl, zB_mono hGm (by omega), hFm, zFR_mv hs.1 hz hs.2 (fun j hj => hd j (by omega)) b1.2 b2.2⟩
    · show wW (zK sc) zM224 68 [(0, .inr (.inr (.inl (some (34, 0))))), (1, .inl fr), (2, .inl to), (3, .inl k)] [] _ _ _
      have b2 : 0 ≤ m.1 41 0 (((96 * fr) + k).toNat) ∧ m.1 41 0 (((96 * fr) + k).toNat) ≤ 255 := hGm.1 41 _ rfl _ _
      refine ww_go 16 (pc' := 90) (L' := [(0, .inr (.inr (.inl (some (34, 0))))), (1, .inl fr), (2, .inl to), (3, .inl k)]) (st' := []) (m' := wuI m 41 0 (((96 * to) + k).toNat) (m.1 41 0 (((96 * fr) + k).toNat))) (o := some ((0 < 1) ∧ (0 < 1) ∧ (0 < 1 ∧ 0 ≤ (96 * fr) + k ∧ (96 * fr) + k < ((1152 : Nat) : Int)) ∧ (0 < 1 ∧ 0 ≤ (96 * to) + k ∧ (96 * to) + k < ((1152 : Nat) : Int)))) rfl (show (0 < 1) ∧ (0 < 1) ∧ (0 < 1 ∧ 0 ≤ (96 * fr) + k ∧ (96 * fr) + k < ((1152 : Nat) : Int)) ∧ (0 < 1 ∧ 0 ≤ (96 * to) + k ∧ (96 * to) + k < ((1152 : Nat) : Int)) from by omega) ?_
      obtain ⟨m3, hm3⟩ : ∃ zq9 : wm, zq9 = wuI m 41 0 (((96 * to) + k).toNat) (m.1 41 0 (((96 * fr) + k).toNat)) := ⟨_, rfl⟩
      rw [← hm3]
      have hGm3 : zB c m3 := by rw [hm3]; exact zB_wI rfl (show 0 ≤ m.1 41 0 (((96 * fr) + k).toNat) ∧ m.1 41 0 (((96 * fr) + k).toNat) ≤ 255 from by omega) hGm
      have hFm3 : zfr (fun k i j => (k = 38 ∧ j = to.toNat) ∨ (k = 40 ∧ j = to.toNat) ∨ (k = 39 ∧ 6 * to.toNat ≤ j ∧ j < 6 * to.toNat + 6) ∨ (k = 41 ∧ 96 * to.toNat ≤ j ∧ j < 96 * to.toNat + 96)) m0 m3 := by rw [hm3]; exact zfr_wI hFm (show (41 = 38 ∧ (((96 * to) + k).toNat) = to.toNat) ∨ (41 = 40 ∧ (((96 * to) + k).toNat) = to.toNat) ∨ (41 = 39 ∧ 6 * to.toNat ≤ (((96 * to) + k).toNat) ∧ (((96 * to) + k).toNat) < 6 * to.toNat + 6) ∨ (41 = 41 ∧ 96 * to.toNat ≤ (((96 * to) + k).toNat) ∧ (((96 * to) + k).toNat) < 96 * to.toNat + 96) from Or.inr (Or.inr (Or.inr ((show (41 = 41 ∧ 96 * to.toNat ≤ (((96 * to) + k).toNat) ∧ (((96 * to) + k).toNat) < 96 * to.toNat + 96) from by omega)))))
      have s4 : m3.1 41 0 (((96 * to) + k).toNat) = m.1 41 0 (((96 * fr) + k).toNat) := by rw [hm3]; exact wuI_self
      have w5 : m3.1 38 0 to.toNat = m.1 38 0 to.toNat := by rw [hm3]; rfl
      have w6 : m3.1 40 0 to.toNat = m.1 40 0 to.toNat := by rw [hm3]; rfl
      have w7 : m3.1 40 0 fr.toNat = m.1 40 0 fr.toNat := by rw [hm3]; rfl
      refine ww_go 2 (pc' := 62) (L' := [(3, .inl (k + 1)), (0, .inr (.inr (.inl (some (34, 0))))), (1, .inl fr), (2, .inl to)]) (st' := []) (m' := m3) (o := none) rfl trivial ?_
      refine ww_sub (L := [(0, .inr (.inr (.inl (some (34, 0))))), (1, .inl fr), (2, .inl to), (3, .inl (k + 1))]) ⟨rfl, rfl, rfl, rfl, trivial⟩ rfl rfl ?_
      exact (ih _ (by omega)) (k + 1) m3 rfl (zB_mono hGm3 (by omega)) hFm3 (by omega) (by omega) (by rw [hm3]; exact hz) (by exact fun j hj => (Decidable.em ((j : Int) < k)).elim (fun z => (by rw [hm3, wuI_nj (by omega)]; exact hd j z)) (fun z => (by rw [show 96 * to.toNat + j = (96 * to + k).toNat from by omega, hm3, wuI_self, show 96 * fr.toNat + j = (96 * fr + k).toNat from by omega]; exact (hFm 41 0 (96 * fr + k).toNat (show ¬ ((41 = 38 ∧ ((96 * fr + k).toNat) = to.toNat) ∨ (41 = 40 ∧ ((96 * fr + k).toNat) = to.toNat) ∨ (41 = 39 ∧ 6 * to.toNat ≤ ((96 * fr + k).toNat) ∧ ((96 * fr + k).toNat) < 6 * to.toNat + 6) ∨ (41 = 41 ∧ 96 * to.toNat ≤ ((96 * fr + k).toNat) ∧ ((96 * fr + k).toNat) < 96 * to.toNat + 96)) from by omega)).1)))
set_option maxRecDepth 8000 in
theorem zs224_l26 {sc : xSc} {n : Nat × Nat} {m0 : wm} {c : Int} (hc : 0 ≤ c ∧ c ≤ 1000000) (fr : Int) (to : Int) (hG : zB c m0) (h0 : 0 ≤ fr ∧ fr ≤ 11 ∧ 0 ≤ to ∧ to ≤ 11 ∧ fr ≠ to) : ∀ (d : Nat), ∀ (k : Int) (m : wm), (6 - k).toNat = d → zB c m → zfr (fun k i j => (k = 38 ∧ j = to.toNat) ∨ (k = 40 ∧ j = to.toNat) ∨ (k = 39 ∧ 6 * to.toNat ≤ j ∧ j < 6 * to.toNat + 6) ∨ (k = 41 ∧ 96 * to.toNat ≤ j ∧ j < 96 * to.toNat + 96)) m0 m → (0 ≤ k ∧ k ≤ 6) → (m.1 38 0 to.toNat = m0.1 38 0 fr.toNat ∧ m.1 40 0 to.toNat = m0.1 40 0 fr.toNat) → (∀ j : Nat, (j : Int) < k → m.1 39 0 (6 * to.toNat + j) = m0.1 39 0 (6 * fr.toNat + j)) →  wW (zK sc) zM224 26 [(0, .inr (.inr (.inl (some (34, 0))))), (1, .inl fr), (2, .inl to), (3, .inl k)] [] n m (wr (fun vv n1 m1 => vv = none ∧ n = n1 ∧ zB c m1 ∧ zfr (fun k i j => (k = 38 ∧ j = to.toNat) ∨ (k = 40 ∧ j = to.toNat) ∨ (k = 39 ∧ 6 * to.toNat ≤ j ∧ j < 6 * to.toNat + 6) ∨ (k = 41 ∧ 96 * to.toNat ≤ j ∧ j < 96 * to.toNat + 96)) m0 m1 ∧ (zFR m1 to.toNat = zFR m0 fr.toNat))) := by
  intro d
  induction d using Nat.strongRecOn with
  | ind d ih =>
    intro k m hd hGm hFm hk hs hz
    have b1 : 0 ≤ m0.1 38 0 fr.toNat ∧ m0.1 38 0 fr.toNat ≤ 6 := hG.1 38 _ rfl _ _
    have b2 : 0 ≤ m0.1 40 0 fr.toNat ∧ m0.1 40 0 fr.toNat ≤ 96 := hG.1 40 _ rfl _ _
    refine ww_go 2 (pc' := 29) (L' := [(0, .inr (.inr (.inl (some (34, 0))))), (1, .inl fr), (2, .inl to), (3, .inl k)]) (st' := [.inl 6, .inl k]) (m' := m) (o := none) rfl trivial ?_
    refine ww_ic (t := 60) rfl rfl (by omega) (fun (h1 : 6 ≤ k) => ?_) (fun (h1 : ¬ (6 ≤ k)) => ?_)
    · show wW (zK sc) zM224 60 [(0, .inr (.inr (.inl (some (34, 0))))), (1, .inl fr), (2, .inl to), (3, .inl k)] [] _ _ _
      refine ww_go 2 (pc' := 62) (L' := [(3, .inl 0), (0, .inr (.inr (.inl (some (34, 0))))), (1, .inl fr), (2, .inl to)]) (st' := []) (m' := m) (o := none) rfl trivial ?_
      refine ww_sub (L := [(0, .inr (.inr (.inl (some (34, 0))))), (1, .inl fr), (2, .inl to), (3, .inl 0)]) ⟨rfl, rfl, rfl, rfl, trivial⟩ rfl rfl ?_
      exact (zs224_l62 hc fr to hG h0 _) 0 m rfl (zB_mono hGm (by omega)) hFm (by omega) (by omega) (by exact fun j hj => hz j (by omega)) (by exact fun j hj => absurd hj (by omega))
    · show wW (zK sc) zM224 32 [(0, .inr (.inr (.inl (some (34, 0))))), (1, .inl fr), (2, .inl to), (3, .inl k)] [] _ _ _
      have b2 : 0 ≤ m.1 39 0 (((6 * fr) + k).toNat) ∧ m.1 39 0 (((6 * fr) + k).toNat) ≤ 255 := hGm.1 39 _ rfl _ _
      refine ww_go 16 (pc' := 54) (L' := [(0, .inr (.inr (.inl (some (34, 0))))), (1, .inl fr), (2, .inl to), (3, .inl k)]) (st' := []) (m' := wuI m 39 0 (((6 * to) + k).toNat) (m.1 39 0 (((6 * fr) + k).toNat))) (o := some ((0 < 1) ∧ (0 < 1) ∧ (0 < 1 ∧ 0 ≤ (6 * fr) + k ∧ (6 * fr) + k < ((72 : Nat) : Int)) ∧ (0 < 1 ∧ 0 ≤ (6 * to) + k ∧ (6 * to) + k < ((72 : Nat) : Int)))) rfl (show (0 < 1) ∧ (0 < 1) ∧ (0 < 1 ∧ 0 ≤ (6 * fr) + k ∧ (6 * fr) + k < ((72 : Nat) : Int)) ∧ (0 < 1 ∧ 0 ≤ (6 * to) + k ∧ (6 * to) + k < ((72 : Nat) : Int)) from by omega) ?_
      obtain ⟨m3, hm3⟩ : ∃ zq9 : wm, zq9 = wuI m 39 0 (((6 * to) + k).toNat) (m.1 39 0 (((6 * fr) + k).toNat)) := ⟨_, rfl⟩
      rw [← hm3]
      have hGm3 : zB c m3 := by rw [hm3]; exact zB_wI rfl (show 0 ≤ m.1 39 0 (((6 * fr) + k).toNat) ∧ m.1 39 0 (((6 * fr) + k).toNat) ≤ 255 from by omega) hGm
      have hFm3 : zfr (fun k i j => (k = 38 ∧ j = to.toNat) ∨ (k = 40 ∧ j = to.toNat) ∨ (k = 39 ∧ 6 * to.toNat ≤ j ∧ j < 6 * to.toNat + 6) ∨ (k = 41 ∧ 96 * to.toNat ≤ j ∧ j < 96 * to.toNat + 96)) m0 m3 := by rw [hm3]; exact zfr_wI hFm (show (39 = 38 ∧ (((6 * to) + k).toNat) = to.toNat) ∨ (39 = 40 ∧ (((6 * to) + k).toNat) = to.toNat) ∨ (39 = 39 ∧ 6 * to.toNat ≤ (((6 * to) + k).toNat) ∧ (((6 * to) + k).toNat) < 6 * to.toNat + 6) ∨ (39 = 41 ∧ 96 * to.toNat ≤ (((6 * to) + k).toNat) ∧ (((6 * to) + k).toNat) < 96 * to.toNat + 96) from Or.inr (Or.inr (Or.inl ((show (39 = 39 ∧ 6 * to.toNat ≤ (((6 * to) + k).toNat) ∧ (((6 * to) + k).toNat) < 6 * to.toNat + 6) from by omega)))))
      have s4 : m3.1 39 0 (((6 * to) + k).toNat) = m.1 39 0 (((6 * fr) + k).toNat) := by rw [hm3]; exact wuI_self
      have w5 : m3.1 38 0 to.toNat = m.1 38 0 to.toNat := by rw [hm3]; rfl
      have w6 : m3.1 40 0 to.toNat = m.1 40 0 to.toNat := by rw [hm3]; rfl
      have w7 : m3.1 40 0 fr.toNat = m.1 40 0 fr.toNat := by rw [hm3]; rfl
      refine ww_go 2 (pc' := 26) (L' := [(3, .inl (k + 1)), (0, .inr (.inr (.inl (some (34, 0))))), (1, .inl fr), (2, .inl to)]) (st' := []) (m' := m3) (o := none) rfl trivial ?_
      refine ww_sub (L := [(0, .inr (.inr (.inl (some (34, 0))))), (1, .inl fr), (2, .inl to), (3, .inl (k + 1))]) ⟨rfl, rfl, rfl, rfl, trivial⟩ rfl rfl ?_
      exact (ih _ (by omega)) (k + 1) m3 rfl (zB_mono hGm3 (by omega)) hFm3 (by omega) (by omega) (by exact fun j hj => (Decidable.em ((j : Int) < k)).elim (fun z => (by rw [hm3, wuI_nj (by omega)]; exact hz j z)) (fun z => (by rw [show 6 * to.toNat + j = (6 * to + k).toNat from by omega, hm3, wuI_self, show 6 * fr.toNat + j = (6 * fr + k).toNat from by omega]; exact (hFm 39 0 (6 * fr + k).toNat (show ¬ ((39 = 38 ∧ ((6 * fr + k).toNat) = to.toNat) ∨ (39 = 40 ∧ ((6 * fr + k).toNat) = to.toNat) ∨ (39 = 39 ∧ 6 * to.toNat ≤ ((6 * fr + k).toNat) ∧ ((6 * fr + k).toNat) < 6 * to.toNat + 6) ∨ (39 = 41 ∧ 96 * to.toNat ≤ ((6 * fr + k).toNat) ∧ ((6 * fr + k).toNat) < 96 * to.toNat + 96)) from by omega)).1)))
set_option maxRecDepth 8000 in
/-- Mo.move -/
theorem zs224 {sc : xSc} {n : Nat × Nat} {m0 : wm} {c : Int} (hc : 0 ≤ c ∧ c ≤ 1000000) (fr : Int) (to : Int) (hG : zB c m0) (h0 : 0 ≤ fr ∧ fr ≤ 11 ∧ 0 ≤ to ∧ to ≤ 11 ∧ fr ≠ to) : wX (zK sc) 224 [.inr (.inr (.inl (some (34, 0)))), .inl fr, .inl to] n m0 (wr (fun vv n1 m1 => vv = none ∧ n = n1 ∧ zB c m1 ∧ zfr (fun k i j => (k = 38 ∧ j = to.toNat) ∨ (k = 40 ∧ j = to.toNat) ∨ (k = 39 ∧ 6 * to.toNat ≤ j ∧ j < 6 * to.toNat + 6) ∨ (k = 41 ∧ 96 * to.toNat ≤ j ∧ j < 96 * to.toNat + 96)) m0 m1 ∧ (zFR m1 to.toNat = zFR m0 fr.toNat))) := by
  refine wX_of (N := zM224) rfl (Nat.le_of_ble_eq_true rfl) ?_
  show wW (zK sc) zM224 0 [(0, .inr (.inr (.inl (some (34, 0))))), (1, .inl fr), (2, .inl to)] [] n m0 _
  have hF : zfr (fun k i j => (k = 38 ∧ j = to.toNat) ∨ (k = 40 ∧ j = to.toNat) ∨ (k = 39 ∧ 6 * to.toNat ≤ j ∧ j < 6 * to.toNat + 6) ∨ (k = 41 ∧ 96 * to.toNat ≤ j ∧ j < 96 * to.toNat + 96)) m0 m0 := zfr_rf
  have b1 : 0 ≤ m0.1 38 0 fr.toNat ∧ m0.1 38 0 fr.toNat ≤ 6 := hG.1 38 _ rfl _ _
  have b2 : 0 ≤ m0.1 40 0 fr.toNat ∧ m0.1 40 0 fr.toNat ≤ 96 := hG.1 40 _ rfl _ _
  have b1 : 0 ≤ m0.1 38 0 fr.toNat ∧ m0.1 38 0 fr.toNat ≤ 6 := hG.1 38 _ rfl _ _
  refine ww_go 8 (pc' := 12) (L' := [(0, .inr (.inr (.inl (some (34, 0))))), (1, .inl fr), (2, .inl to)]) (st' := []) (m' := wuI m0 38 0 to.toNat (m0.1 38 0 fr.toNat)) (o := some ((0 < 1) ∧ (0 < 1) ∧ (0 < 1 ∧ 0 ≤ fr ∧ fr < ((12 : Nat) : Int)) ∧ (0 < 1 ∧ 0 ≤ to ∧ to < ((12 : Nat) : Int)))) rfl (show (0 < 1) ∧ (0 < 1) ∧ (0 < 1 ∧ 0 ≤ fr ∧ fr < ((12 : Nat) : Int)) ∧ (0 < 1 ∧ 0 ≤ to ∧ to < ((12 : Nat) : Int)) from by omega) ?_
  obtain ⟨m2, hm2⟩ : ∃ zq9 : wm, zq9 = wuI m0 38 0 to.toNat (m0.1 38 0 fr.toNat) := ⟨_, rfl⟩
  rw [← hm2]
  have hGm2 : zB c m2 := by rw [hm2]; exact zB_wI rfl (show 0 ≤ m0.1 38 0 fr.toNat ∧ m0.1 38 0 fr.toNat ≤ 6 from by omega) hG
  have hFm2 : zfr (fun k i j => (k = 38 ∧ j = to.toNat) ∨ (k = 40 ∧ j = to.toNat) ∨ (k = 39 ∧ 6 * to.toNat ≤ j ∧ j < 6 * to.toNat + 6) ∨ (k = 41 ∧ 96 * to.toNat ≤ j ∧ j < 96 * to.toNat + 96)) m0 m2 := by rw [hm2]; exact zfr_wI hF (show (38 = 38 ∧ to.toNat = to.toNat) ∨ (38 = 40 ∧ to.toNat = to.toNat) ∨ (38 = 39 ∧ 6 * to.toNat ≤ to.toNat ∧ to.toNat < 6 * to.toNat + 6) ∨ (38 = 41 ∧ 96 * to.toNat ≤ to.toNat ∧ to.toNat < 96 * to.toNat + 96) from Or.inl (⟨rfl, rfl⟩))
  have s3 : m2.1 38 0 to.toNat = m0.1 38 0 fr.toNat := by rw [hm2]; exact wuI_self
  have w4 : m2.1 40 0 to.toNat = m0.1 40 0 to.toNat := by rw [hm2]; rfl
  have w5 : m2.1 40 0 fr.toNat = m0.1 40 0 fr.toNat := by rw [hm2]; rfl
  have b6 : 0 ≤ m2.1 40 0 fr.toNat ∧ m2.1 40 0 fr.toNat ≤ 96 := hGm2.1 40 _ rfl _ _
  refine ww_go 8 (pc' := 24) (L' := [(0, .inr (.inr (.inl (some (34, 0))))), (1, .inl fr), (2, .inl to)]) (st' := []) (m' := wuI m2 40 0 to.toNat (m2.1 40 0 fr.toNat)) (o := some ((0 < 1) ∧ (0 < 1) ∧ (0 < 1 ∧ 0 ≤ fr ∧ fr < ((12 : Nat) : Int)) ∧ (0 < 1 ∧ 0 ≤ to ∧ to < ((12 : Nat) : Int)))) rfl (show (0 < 1) ∧ (0 < 1) ∧ (0 < 1 ∧ 0 ≤ fr ∧ fr < ((12 : Nat) : Int)) ∧ (0 < 1 ∧ 0 ≤ to ∧ to < ((12 : Nat) : Int)) from by omega) ?_
  obtain ⟨m7, hm7⟩ : ∃ zq9 : wm, zq9 = wuI m2 40 0 to.toNat (m2.1 40 0 fr.toNat) := ⟨_, rfl⟩
  rw [← hm7]
  have hGm7 : zB c m7 := by rw [hm7]; exact zB_wI rfl (show 0 ≤ m2.1 40 0 fr.toNat ∧ m2.1 40 0 fr.toNat ≤ 96 from by omega) hGm2
  have hFm7 : zfr (fun k i j => (k = 38 ∧ j = to.toNat) ∨ (k = 40 ∧ j = to.toNat) ∨ (k = 39 ∧ 6 * to.toNat ≤ j ∧ j < 6 * to.toNat + 6) ∨ (k = 41 ∧ 96 * to.toNat ≤ j ∧ j < 96 * to.toNat + 96)) m0 m7 := by rw [hm7]; exact zfr_wI hFm2 (show (40 = 38 ∧ to.toNat = to.toNat) ∨ (40 = 40 ∧ to.toNat = to.toNat) ∨ (40 = 39 ∧ 6 * to.toNat ≤ to.toNat ∧ to.toNat < 6 * to.toNat + 6) ∨ (40 = 41 ∧ 96 * to.toNat ≤ to.toNat ∧ to.toNat < 96 * to.toNat + 96) from Or.inr (Or.inl (⟨rfl, rfl⟩)))
  have s8 : m7.1 40 0 to.toNat = m2.1 40 0 fr.toNat := by rw [hm7]; exact wuI_self
  have w9 : m7.1 38 0 to.toNat = m2.1 38 0 to.toNat := by rw [hm7]; rfl
  refine ww_go 2 (pc' := 26) (L' := [(3, .inl 0), (0, .inr (.inr (.inl (some (34, 0))))), (1, .inl fr), (2, .inl to)]) (st' := []) (m' := m7) (o := none) rfl trivial ?_
  refine ww_sub (L := [(0, .inr (.inr (.inl (some (34, 0))))), (1, .inl fr), (2, .inl to), (3, .inl 0)]) ⟨rfl, rfl, rfl, rfl, trivial⟩ rfl rfl ?_
  exact (zs224_l26 hc fr to hG h0 _) 0 m7 rfl (zB_mono hGm7 (by omega)) hFm7 (by omega) (by omega) (by exact fun j hj => absurd hj (by omega))
set_option maxRecDepth 8000 in
theorem zs257_l240 {sc : xSc} {n : Nat × Nat} {m0 : wm} {c : Int} (hc : 0 ≤ c ∧ c ≤ 1000000) (f : Int) (hG : zB c m0) (h0 : -2147483648 ≤ f ∧ f ≤ 2147483647) : ∀ (d : Nat), ∀ (y : Int) (kk : Int) (e : Int) (ii : Int) (m : wm), (96 - ii).toNat = d → zB c m → zfr (fun k i j => (k = 38 ∧ 6 * f.toNat ≤ j ∧ j < 6 * f.toNat + 6 ∧ 0 ≤ f ∧ f ≤ 1) ∨ (k = 40 ∧ 6 * f.toNat ≤ j ∧ j < 6 * f.toNat + 6 ∧ 0 ≤ f ∧ f ≤ 1) ∨ (k = 39 ∧ 36 * f.toNat ≤ j ∧ j < 36 * f.toNat + 36 ∧ 0 ≤ f ∧ f ≤ 1) ∨ (k = 41 ∧ 576 * f.toNat ≤ j ∧ j < 576 * f.toNat + 576 ∧ 0 ≤ f ∧ f ≤ 1) ∨ (k = 37 ∧ j = f.toNat ∧ 0 ≤ f ∧ f ≤ 1) ∨ (k = 34 ∧ j = 0) ∨ (k = 34 ∧ j = 1) ∨ (k = 34 ∧ j = 2)) m0 m → (0 ≤ f ∧ f ≤ 1 ∧ 6 * f ≤ kk ∧ kk ≤ 6 * f + m0.1 37 0 f.toNat ∧ kk ≤ 6 * f + 5 ∧ y = m0.1 34 0 2 ∧ m.1 34 0 2 = 0 ∧ m.1 34 0 0 = 0 ∧ m.1 34 0 1 = m0.1 34 0 1 ∧ 0 ≤ ii ∧ ii ≤ y) → (zPl (fun x => zNR m0 (6 * f.toNat + x)) (m0.1 37 0 f.toNat) (zNH m0) (kk - 6 * f)) → (zNm (zNH m0)) → (zAA (zAt (fun x => zNR m0 (6 * f.toNat + x)) (m0.1 37 0 f.toNat) (zNH m0) (kk - 6 * f)) e (m0.1 37 0 f.toNat) (m.1 37 0 f.toNat)) → (zSh m0 m f.toNat kk (m0.1 37 0 f.toNat) e) → (m.1 38 0 kk.toNat = m0.1 34 0 1) → (∀ j : Nat, (j : Int) < m0.1 34 0 1 → m.1 39 0 (6 * kk.toNat + j) = m0.1 35 0 j) → (m.1 40 0 kk.toNat = m0.1 34 0 2) → (∀ j : Nat, (j : Int) < ii → m.1 41 0 (96 * kk.toNat + j) = m0.1 36 0 j) →  wW (zK sc) zM257 240 [(0, .inr (.inr (.inl (some (34, 0))))), (1, .inl f), (2, .inl y), (4, .inl kk), (5, .inl e), (7, .inl ii)] [] n m (wr (fun vv n1 m1 => ∃ r : Int, vv = some (.inl r) ∧ n = n1 ∧ zB c m1 ∧ zfr (fun k i j => (k = 38 ∧ 6 * f.toNat ≤ j ∧ j < 6 * f.toNat + 6 ∧ 0 ≤ f ∧ f ≤ 1) ∨ (k = 40 ∧ 6 * f.toNat ≤ j ∧ j < 6 * f.toNat + 6 ∧ 0 ≤ f ∧ f ≤ 1) ∨ (k = 39 ∧ 36 * f.toNat ≤ j ∧ j < 36 * f.toNat + 36 ∧ 0 ≤ f ∧ f ≤ 1) ∨ (k = 41 ∧ 576 * f.toNat ≤ j ∧ j < 576 * f.toNat + 576 ∧ 0 ≤ f ∧ f ≤ 1) ∨ (k = 37 ∧ j = f.toNat ∧ 0 ≤ f ∧ f ≤ 1) ∨ (k = 34 ∧ j = 0) ∨ (k = 34 ∧ j = 1) ∨ (k = 34 ∧ j = 2)) m0 m1 ∧ (m1.1 34 0 1 = 0 ∧ m1.1 34 0 2 = 0 ∧ ((m1.1 34 0 0 = 1 ∧ (f < 0 ∨ 1 < f ∨ ¬ zNm (zNH m0)) ∧ m1.1 37 0 = m0.1 37 0 ∧ ∀ q, zFR m1 q = zFR m0 q) ∨ (0 ≤ f ∧ f ≤ 1 ∧ zNm (zNH m0) ∧ (m1.1 34 0 0 = 2 ∧ zPut (fun x => zFR m0 (6 * f.toNat + x)) (m0.1 37 0 f.toNat) (zNH m0) (zDH m0) (fun x => zFR m1 (6 * f.toNat + x)) (m1.1 37 0 f.toNat) 0 ∨ m1.1 34 0 0 = 0 ∧ zPut (fun x => zFR m0 (6 * f.toNat + x)) (m0.1 37 0 f.toNat) (zNH m0) (zDH m0) (fun x => zFR m1 (6 * f.toNat + x)) (m1.1 37 0 f.toNat) r ∧ 1 ≤ r)))))) := by
  intro d
  induction d using Nat.strongRecOn with
  | ind d ih =>
    intro y kk e ii m hd hGm hFm hi hP hN hA hS hsz hz hy hd
    have b0 : 0 ≤ m0.1 37 0 f.toNat ∧ m0.1 37 0 f.toNat ≤ 6 := hG.1 37 _ rfl _ _
    have bn9 : 0 ≤ m0.1 34 0 1 ∧ m0.1 34 0 1 ≤ 6 := hG.1 34 _ rfl 0 1
    have bg9 : 0 ≤ m0.1 34 0 2 ∧ m0.1 34 0 2 ≤ 96 := hG.1 34 _ rfl 0 2
    refine ww_go 2 (pc' := 243) (L' := [(0, .inr (.inr (.inl (some (34, 0))))), (1, .inl f), (2, .inl y), (4, .inl kk), (5, .inl e), (7, .inl ii)]) (st' := [.inl y, .inl ii]) (m' := m) (o := none) rfl trivial ?_
    refine ww_ic (t := 272) rfl rfl (by omega) (fun (h1 : y ≤ ii) => ?_) (fun (h1 : ¬ (y ≤ ii)) => ?_)
    · show wW (zK sc) zM257 272 [(0, .inr (.inr (.inl (some (34, 0))))), (1, .inl f), (2, .inl y), (4, .inl kk), (5, .inl e), (7, .inl ii)] [] _ _ _
      refine ww_go 3 (pc' := 277) (L' := [(0, .inr (.inr (.inl (some (34, 0))))), (1, .inl f), (2, .inl y), (4, .inl kk), (5, .inl e), (7, .inl ii)]) (st' := []) (m' := wuI m 34 0 1 0) (o := some ((0 < 1))) rfl (show (0 < 1) from by omega) ?_
      obtain ⟨m2, hm2⟩ : ∃ zq9 : wm, zq9 = wuI m 34 0 1 0 := ⟨_, rfl⟩
      rw [← hm2]
      have hGm2 : zB c m2 := by rw [hm2]; exact zB_wI rfl (show 0 ≤ (0 : Int) ∧ (0 : Int) ≤ 6 from by omega) hGm
      have hFm2 : zfr (fun k i j => (k = 38 ∧ 6 * f.toNat ≤ j ∧ j < 6 * f.toNat + 6 ∧ 0 ≤ f ∧ f ≤ 1) ∨ (k = 40 ∧ 6 * f.toNat ≤ j ∧ j < 6 * f.toNat + 6 ∧ 0 ≤ f ∧ f ≤ 1) ∨ (k = 39 ∧ 36 * f.toNat ≤ j ∧ j < 36 * f.toNat + 36 ∧ 0 ≤ f ∧ f ≤ 1) ∨ (k = 41 ∧ 576 * f.toNat ≤ j ∧ j < 576 * f.toNat + 576 ∧ 0 ≤ f ∧ f ≤ 1) ∨ (k = 37 ∧ j = f.toNat ∧ 0 ≤ f ∧ f ≤ 1) ∨ (k = 34 ∧ j = 0) ∨ (k = 34 ∧ j = 1) ∨ (k = 34 ∧ j = 2)) m0 m2 := by rw [hm2]; exact zfr_wI hFm (show (34 = 38 ∧ 6 * f.toNat ≤ 1 ∧ 1 < 6 * f.toNat + 6 ∧ 0 ≤ f ∧ f ≤ 1) ∨ (34 = 40 ∧ 6 * f.toNat ≤ 1 ∧ 1 < 6 * f.toNat + 6 ∧ 0 ≤ f ∧ f ≤ 1) ∨ (34 = 39 ∧ 36 * f.toNat ≤ 1 ∧ 1 < 36 * f.toNat + 36 ∧ 0 ≤ f ∧ f ≤ 1) ∨ (34 = 41 ∧ 576 * f.toNat ≤ 1 ∧ 1 < 576 * f.toNat + 576 ∧ 0 ≤ f ∧ f ≤ 1) ∨ (34 = 37 ∧ 1 = f.toNat ∧ 0 ≤ f ∧ f ≤ 1) ∨ (34 = 34 ∧ 1 = 0) ∨ (34 = 34 ∧ 1 = 1) ∨ (34 = 34 ∧ 1 = 2) from Or.inr (Or.inr (Or.inr (Or.inr (Or.inr (Or.inr (Or.inl (⟨rfl, rfl⟩))))))))
      have s3 : m2.1 34 0 1 = (0 : Int) := by rw [hm2]; exact wuI_self
      have w4 : m2.1 34 0 0 = m.1 34 0 0 := by rw [hm2]; exact wuI_nj (by omega)
      have w5 : m2.1 34 0 2 = m.1 34 0 2 := by rw [hm2]; exact wuI_nj (by omega)
      have w6 : m2.1 37 0 f.toNat = m.1 37 0 f.toNat := by rw [hm2]; rfl
      have w7 : m2.1 38 0 kk.toNat = m.1 38 0 kk.toNat := by rw [hm2]; rfl
      have w8 : m2.1 40 0 kk.toNat = m.1 40 0 kk.toNat := by rw [hm2]; rfl
      have b9 : 0 ≤ m2.1 37 0 f.toNat ∧ m2.1 37 0 f.toNat ≤ 6 := hGm2.1 37 _ rfl _ _
      refine ww_go 4 (pc' := 283) (L' := [(0, .inr (.inr (.inl (some (34, 0))))), (1, .inl f), (2, .inl y), (4, .inl kk), (5, .inl e), (7, .inl ii)]) (st' := [.inl (m2.1 37 0 f.toNat)]) (m' := m2) (o := some ((0 < 1) ∧ (0 < 1 ∧ 0 ≤ f ∧ f < ((2 : Nat) : Int)))) rfl (show (0 < 1) ∧ (0 < 1 ∧ 0 ≤ f ∧ f < ((2 : Nat) : Int)) from by omega) ?_
      have hS9 : zSh m0 m2 f.toNat kk (m0.1 37 0 f.toNat) e := by rw [hm2]; exact zSh_w hS hGm (by omega) (by omega)
      have hk9 : zFR m2 kk.toNat = (zNH m0, zDH m0) := by rw [hm2]; exact zFR_at hsz hz hy (fun j hj => hd j (by omega))
      exact ww_rI rfl rfl ⟨_, rfl, rfl, zB_mono hGm2 (by omega), hFm2, ⟨by omega, by omega, Or.inr ⟨by omega, by omega, hN, Or.inr ⟨by omega, zPut_r (e := e) (by omega) hP hS9 hk9 (by omega) ((show _ ∨ _ from hA).imp (fun z => ⟨z.1, z.2.1, by omega, by omega⟩) (fun z => ⟨z.1, z.2.1, z.2.2.1, by omega, by omega⟩)), ((show _ ∨ _ from hA).elim (fun z => by have z9 := z.1.1; have z8 := hP.1; omega) (fun z => by omega))⟩⟩⟩⟩
    · show wW (zK sc) zM257 246 [(0, .inr (.inr (.inl (some (34, 0))))), (1, .inl f), (2, .inl y), (4, .inl kk), (5, .inl e), (7, .inl ii)] [] _ _ _
      have b10 : 0 ≤ m.1 36 0 ii.toNat ∧ m.1 36 0 ii.toNat ≤ 255 := hGm.1 36 _ rfl _ _
      refine ww_go 12 (pc' := 266) (L' := [(0, .inr (.inr (.inl (some (34, 0))))), (1, .inl f), (2, .inl y), (4, .inl kk), (5, .inl e), (7, .inl ii)]) (st' := []) (m' := wuI m 41 0 (((96 * kk) + ii).toNat) (m.1 36 0 ii.toNat)) (o := some ((0 < 1) ∧ (0 < 1) ∧ (0 < 1 ∧ 0 ≤ ii ∧ ii < ((96 : Nat) : Int)) ∧ (0 < 1 ∧ 0 ≤ (96 * kk) + ii ∧ (96 * kk) + ii < ((1152 : Nat) : Int)))) rfl (show (0 < 1) ∧ (0 < 1) ∧ (0 < 1 ∧ 0 ≤ ii ∧ ii < ((96 : Nat) : Int)) ∧ (0 < 1 ∧ 0 ≤ (96 * kk) + ii ∧ (96 * kk) + ii < ((1152 : Nat) : Int)) from by omega) ?_
      obtain ⟨m11, hm11⟩ : ∃ zq9 : wm, zq9 = wuI m 41 0 (((96 * kk) + ii).toNat) (m.1 36 0 ii.toNat) := ⟨_, rfl⟩
      rw [← hm11]
      have hGm11 : zB c m11 := by rw [hm11]; exact zB_wI rfl (show 0 ≤ m.1 36 0 ii.toNat ∧ m.1 36 0 ii.toNat ≤ 255 from by omega) hGm
      have hFm11 : zfr (fun k i j => (k = 38 ∧ 6 * f.toNat ≤ j ∧ j < 6 * f.toNat + 6 ∧ 0 ≤ f ∧ f ≤ 1) ∨ (k = 40 ∧ 6 * f.toNat ≤ j ∧ j < 6 * f.toNat + 6 ∧ 0 ≤ f ∧ f ≤ 1) ∨ (k = 39 ∧ 36 * f.toNat ≤ j ∧ j < 36 * f.toNat + 36 ∧ 0 ≤ f ∧ f ≤ 1) ∨ (k = 41 ∧ 576 * f.toNat ≤ j ∧ j < 576 * f.toNat + 576 ∧ 0 ≤ f ∧ f ≤ 1) ∨ (k = 37 ∧ j = f.toNat ∧ 0 ≤ f ∧ f ≤ 1) ∨ (k = 34 ∧ j = 0) ∨ (k = 34 ∧ j = 1) ∨ (k = 34 ∧ j = 2)) m0 m11 := by rw [hm11]; exact zfr_wI hFm (show (41 = 38 ∧ 6 * f.toNat ≤ (((96 * kk) + ii).toNat) ∧ (((96 * kk) + ii).toNat) < 6 * f.toNat + 6 ∧ 0 ≤ f ∧ f ≤ 1) ∨ (41 = 40 ∧ 6 * f.toNat ≤ (((96 * kk) + ii).toNat) ∧ (((96 * kk) + ii).toNat) < 6 * f.toNat + 6 ∧ 0 ≤ f ∧ f ≤ 1) ∨ (41 = 39 ∧ 36 * f.toNat ≤ (((96 * kk) + ii).toNat) ∧ (((96 * kk) + ii).toNat) < 36 * f.toNat + 36 ∧ 0 ≤ f ∧ f ≤ 1) ∨ (41 = 41 ∧ 576 * f.toNat ≤ (((96 * kk) + ii).toNat) ∧ (((96 * kk) + ii).toNat) < 576 * f.toNat + 576 ∧ 0 ≤ f ∧ f ≤ 1) ∨ (41 = 37 ∧ (((96 * kk) + ii).toNat) = f.toNat ∧ 0 ≤ f ∧ f ≤ 1) ∨ (41 = 34 ∧ (((96 * kk) + ii).toNat) = 0) ∨ (41 = 34 ∧ (((96 * kk) + ii).toNat) = 1) ∨ (41 = 34 ∧ (((96 * kk) + ii).toNat) = 2) from Or.inr (Or.inr (Or.inr (Or.inl ((show (41 = 41 ∧ 576 * f.toNat ≤ (((96 * kk) + ii).toNat) ∧ (((96 * kk) + ii).toNat) < 576 * f.toNat + 576 ∧ 0 ≤ f ∧ f ≤ 1) from by omega))))))
      have s12 : m11.1 41 0 (((96 * kk) + ii).toNat) = m.1 36 0 ii.toNat := by rw [hm11]; exact wuI_self
      have w13 : m11.1 34 0 0 = m.1 34 0 0 := by rw [hm11]; rfl
      have w14 : m11.1 34 0 1 = m.1 34 0 1 := by rw [hm11]; rfl
      have w15 : m11.1 34 0 2 = m.1 34 0 2 := by rw [hm11]; rfl
      have w16 : m11.1 37 0 f.toNat = m.1 37 0 f.toNat := by rw [hm11]; rfl
      have w17 : m11.1 38 0 kk.toNat = m.1 38 0 kk.toNat := by rw [hm11]; rfl
      have w18 : m11.1 40 0 kk.toNat = m.1 40 0 kk.toNat := by rw [hm11]; rfl
      refine ww_go 2 (pc' := 240) (L' := [(7, .inl (ii + 1)), (0, .inr (.inr (.inl (some (34, 0))))), (1, .inl f), (2, .inl y), (4, .inl kk), (5, .inl e)]) (st' := []) (m' := m11) (o := none) rfl trivial ?_
      refine ww_sub (L := [(0, .inr (.inr (.inl (some (34, 0))))), (1, .inl f), (2, .inl y), (4, .inl kk), (5, .inl e), (7, .inl (ii + 1))]) ⟨rfl, rfl, rfl, rfl, rfl, rfl, trivial⟩ rfl rfl ?_
      have zS19 : zSh m0 m11 f.toNat kk (m0.1 37 0 f.toNat) e := by rw [hm11]; exact zSh_w hS hGm (by omega) (by omega)
      exact (ih _ (by omega)) y kk e (ii + 1) m11 rfl (zB_mono hGm11 (by omega)) hFm11 (by omega) (by exact hP) (by exact hN) (by exact (show _ ∨ _ from hA).imp (fun z => ⟨z.1, z.2.1, by omega⟩) (fun z => ⟨z.1, z.2.1, z.2.2.1, by omega⟩)) (by exact zS19) (by omega) (by rw [hm11]; exact hz) (by omega) (by exact fun j hj => (Decidable.em ((j : Int) < ii)).elim (fun z => (by rw [hm11, wuI_nj (by omega)]; exact hd j z)) (fun z => (by rw [show 96 * kk.toNat + j = (96 * kk + ii).toNat from by omega, hm11, wuI_self, show j = ii.toNat from by omega]; exact (hFm 36 0 ii.toNat (show ¬ ((36 = 38 ∧ 6 * f.toNat ≤ ii.toNat ∧ ii.toNat < 6 * f.toNat + 6 ∧ 0 ≤ f ∧ f ≤ 1) ∨ (36 = 40 ∧ 6 * f.toNat ≤ ii.toNat ∧ ii.toNat < 6 * f.toNat + 6 ∧ 0 ≤ f ∧ f ≤ 1) ∨ (36 = 39 ∧ 36 * f.toNat ≤ ii.toNat ∧ ii.toNat < 36 * f.toNat + 36 ∧ 0 ≤ f ∧ f ≤ 1) ∨ (36 = 41 ∧ 576 * f.toNat ≤ ii.toNat ∧ ii.toNat < 576 * f.toNat + 576 ∧ 0 ≤ f ∧ f ≤ 1) ∨ (36 = 37 ∧ ii.toNat = f.toNat ∧ 0 ≤ f ∧ f ≤ 1) ∨ (36 = 34 ∧ ii.toNat = 0) ∨ (36 = 34 ∧ ii.toNat = 1) ∨ (36 = 34 ∧ ii.toNat = 2)) from by omega)).1)))
set_option maxRecDepth 8000 in
theorem zs257_l194 {sc : xSc} {n : Nat × Nat} {m0 : wm} {c : Int} (hc : 0 ≤ c ∧ c ≤ 1000000) (f : Int) (hG : zB c m0) (h0 : -2147483648 ≤ f ∧ f ≤ 2147483647) : ∀ (d : Nat), ∀ (y : Int) (kk : Int) (e : Int) (ii : Int) (m : wm), (6 - ii).toNat = d → zB c m → zfr (fun k i j => (k = 38 ∧ 6 * f.toNat ≤ j ∧ j < 6 * f.toNat + 6 ∧ 0 ≤ f ∧ f ≤ 1) ∨ (k = 40 ∧ 6 * f.toNat ≤ j ∧ j < 6 * f.toNat + 6 ∧ 0 ≤ f ∧ f ≤ 1) ∨ (k = 39 ∧ 36 * f.toNat ≤ j ∧ j < 36 * f.toNat + 36 ∧ 0 ≤ f ∧ f ≤ 1) ∨ (k = 41 ∧ 576 * f.toNat ≤ j ∧ j < 576 * f.toNat + 576 ∧ 0 ≤ f ∧ f ≤ 1) ∨ (k = 37 ∧ j = f.toNat ∧ 0 ≤ f ∧ f ≤ 1) ∨ (k = 34 ∧ j = 0) ∨ (k = 34 ∧ j = 1) ∨ (k = 34 ∧ j = 2)) m0 m → (0 ≤ f ∧ f ≤ 1 ∧ 6 * f ≤ kk ∧ kk ≤ 6 * f + m0.1 37 0 f.toNat ∧ kk ≤ 6 * f + 5 ∧ y = m0.1 34 0 2 ∧ m.1 34 0 2 = 0 ∧ m.1 34 0 0 = 0 ∧ m.1 34 0 1 = m0.1 34 0 1 ∧ 0 ≤ ii ∧ ii ≤ m0.1 34 0 1) → (zPl (fun x => zNR m0 (6 * f.toNat + x)) (m0.1 37 0 f.toNat) (zNH m0) (kk - 6 * f)) → (zNm (zNH m0)) → (zAA (zAt (fun x => zNR m0 (6 * f.toNat + x)) (m0.1 37 0 f.toNat) (zNH m0) (kk - 6 * f)) e (m0.1 37 0 f.toNat) (m.1 37 0 f.toNat)) → (zSh m0 m f.toNat kk (m0.1 37 0 f.toNat) e) → (m.1 38 0 kk.toNat = m0.1 34 0 1) → (∀ j : Nat, (j : Int) < ii → m.1 39 0 (6 * kk.toNat + j) = m0.1 35 0 j) →  wW (zK sc) zM257 194 [(0, .inr (.inr (.inl (some (34, 0))))), (1, .inl f), (2, .inl y), (4, .inl kk), (5, .inl e), (7, .inl ii)] [] n m (wr (fun vv n1 m1 => ∃ r : Int, vv = some (.inl r) ∧ n = n1 ∧ zB c m1 ∧ zfr (fun k i j => (k = 38 ∧ 6 * f.toNat ≤ j ∧ j < 6 * f.toNat + 6 ∧ 0 ≤ f ∧ f ≤ 1) ∨ (k = 40 ∧ 6 * f.toNat ≤ j ∧ j < 6 * f.toNat + 6 ∧ 0 ≤ f ∧ f ≤ 1) ∨ (k = 39 ∧ 36 * f.toNat ≤ j ∧ j < 36 * f.toNat + 36 ∧ 0 ≤ f ∧ f ≤ 1) ∨ (k = 41 ∧ 576 * f.toNat ≤ j ∧ j < 576 * f.toNat + 576 ∧ 0 ≤ f ∧ f ≤ 1) ∨ (k = 37 ∧ j = f.toNat ∧ 0 ≤ f ∧ f ≤ 1) ∨ (k = 34 ∧ j = 0) ∨ (k = 34 ∧ j = 1) ∨ (k = 34 ∧ j = 2)) m0 m1 ∧ (m1.1 34 0 1 = 0 ∧ m1.1 34 0 2 = 0 ∧ ((m1.1 34 0 0 = 1 ∧ (f < 0 ∨ 1 < f ∨ ¬ zNm (zNH m0)) ∧ m1.1 37 0 = m0.1 37 0 ∧ ∀ q, zFR m1 q = zFR m0 q) ∨ (0 ≤ f ∧ f ≤ 1 ∧ zNm (zNH m0) ∧ (m1.1 34 0 0 = 2 ∧ zPut (fun x => zFR m0 (6 * f.toNat + x)) (m0.1 37 0 f.toNat) (zNH m0) (zDH m0) (fun x => zFR m1 (6 * f.toNat + x)) (m1.1 37 0 f.toNat) 0 ∨ m1.1 34 0 0 = 0 ∧ zPut (fun x => zFR m0 (6 * f.toNat + x)) (m0.1 37 0 f.toNat) (zNH m0) (zDH m0) (fun x => zFR m1 (6 * f.toNat + x)) (m1.1 37 0 f.toNat) r ∧ 1 ≤ r)))))) := by
  intro d
  induction d using Nat.strongRecOn with
  | ind d ih =>
    intro y kk e ii m hd hGm hFm hi hP hN hA hS hsz hz
    have b0 : 0 ≤ m0.1 37 0 f.toNat ∧ m0.1 37 0 f.toNat ≤ 6 := hG.1 37 _ rfl _ _
    have bn9 : 0 ≤ m0.1 34 0 1 ∧ m0.1 34 0 1 ≤ 6 := hG.1 34 _ rfl 0 1
    have bg9 : 0 ≤ m0.1 34 0 2 ∧ m0.1 34 0 2 ≤ 96 := hG.1 34 _ rfl 0 2
    have b1 : 0 ≤ m.1 34 0 1 ∧ m.1 34 0 1 ≤ 6 := hGm.1 34 _ rfl _ _
    refine ww_go 3 (pc' := 200) (L' := [(0, .inr (.inr (.inl (some (34, 0))))), (1, .inl f), (2, .inl y), (4, .inl kk), (5, .inl e), (7, .inl ii)]) (st' := [.inl (m.1 34 0 1), .inl ii]) (m' := m) (o := some ((0 < 1))) rfl (show (0 < 1) from by omega) ?_
    refine ww_ic (t := 229) rfl rfl (by omega) (fun (h2 : m.1 34 0 1 ≤ ii) => ?_) (fun (h2 : ¬ (m.1 34 0 1 ≤ ii)) => ?_)
    · show wW (zK sc) zM257 229 [(0, .inr (.inr (.inl (some (34, 0))))), (1, .inl f), (2, .inl y), (4, .inl kk), (5, .inl e), (7, .inl ii)] [] _ _ _
      refine ww_go 5 (pc' := 237) (L' := [(0, .inr (.inr (.inl (some (34, 0))))), (1, .inl f), (2, .inl y), (4, .inl kk), (5, .inl e), (7, .inl ii)]) (st' := []) (m' := wuI m 40 0 kk.toNat y) (o := some ((0 < 1) ∧ (0 < 1 ∧ 0 ≤ kk ∧ kk < ((12 : Nat) : Int)))) rfl (show (0 < 1) ∧ (0 < 1 ∧ 0 ≤ kk ∧ kk < ((12 : Nat) : Int)) from by omega) ?_
      obtain ⟨m3, hm3⟩ : ∃ zq9 : wm, zq9 = wuI m 40 0 kk.toNat y := ⟨_, rfl⟩
      rw [← hm3]
      have hGm3 : zB c m3 := by rw [hm3]; exact zB_wI rfl (show 0 ≤ y ∧ y ≤ 96 from by omega) hGm
      have hFm3 : zfr (fun k i j => (k = 38 ∧ 6 * f.toNat ≤ j ∧ j < 6 * f.toNat + 6 ∧ 0 ≤ f ∧ f ≤ 1) ∨ (k = 40 ∧ 6 * f.toNat ≤ j ∧ j < 6 * f.toNat + 6 ∧ 0 ≤ f ∧ f ≤ 1) ∨ (k = 39 ∧ 36 * f.toNat ≤ j ∧ j < 36 * f.toNat + 36 ∧ 0 ≤ f ∧ f ≤ 1) ∨ (k = 41 ∧ 576 * f.toNat ≤ j ∧ j < 576 * f.toNat + 576 ∧ 0 ≤ f ∧ f ≤ 1) ∨ (k = 37 ∧ j = f.toNat ∧ 0 ≤ f ∧ f ≤ 1) ∨ (k = 34 ∧ j = 0) ∨ (k = 34 ∧ j = 1) ∨ (k = 34 ∧ j = 2)) m0 m3 := by rw [hm3]; exact zfr_wI hFm (show (40 = 38 ∧ 6 * f.toNat ≤ kk.toNat ∧ kk.toNat < 6 * f.toNat + 6 ∧ 0 ≤ f ∧ f ≤ 1) ∨ (40 = 40 ∧ 6 * f.toNat ≤ kk.toNat ∧ kk.toNat < 6 * f.toNat + 6 ∧ 0 ≤ f ∧ f ≤ 1) ∨ (40 = 39 ∧ 36 * f.toNat ≤ kk.toNat ∧ kk.toNat < 36 * f.toNat + 36 ∧ 0 ≤ f ∧ f ≤ 1) ∨ (40 = 41 ∧ 576 * f.toNat ≤ kk.toNat ∧ kk.toNat < 576 * f.toNat + 576 ∧ 0 ≤ f ∧ f ≤ 1) ∨ (40 = 37 ∧ kk.toNat = f.toNat ∧ 0 ≤ f ∧ f ≤ 1) ∨ (40 = 34 ∧ kk.toNat = 0) ∨ (40 = 34 ∧ kk.toNat = 1) ∨ (40 = 34 ∧ kk.toNat = 2) from Or.inr (Or.inl ((show (40 = 40 ∧ 6 * f.toNat ≤ kk.toNat ∧ kk.toNat < 6 * f.toNat + 6 ∧ 0 ≤ f ∧ f ≤ 1) from by omega))))
      have s4 : m3.1 40 0 kk.toNat = y := by rw [hm3]; exact wuI_self
      have w5 : m3.1 34 0 0 = m.1 34 0 0 := by rw [hm3]; rfl
      have w6 : m3.1 34 0 1 = m.1 34 0 1 := by rw [hm3]; rfl
      have w7 : m3.1 34 0 2 = m.1 34 0 2 := by rw [hm3]; rfl
      have w8 : m3.1 37 0 f.toNat = m.1 37 0 f.toNat := by rw [hm3]; rfl
      have w9 : m3.1 38 0 kk.toNat = m.1 38 0 kk.toNat := by rw [hm3]; rfl
      refine ww_go 2 (pc' := 240) (L' := [(7, .inl 0), (0, .inr (.inr (.inl (some (34, 0))))), (1, .inl f), (2, .inl y), (4, .inl kk), (5, .inl e)]) (st' := []) (m' := m3) (o := none) rfl trivial ?_
      refine ww_sub (L := [(0, .inr (.inr (.inl (some (34, 0))))), (1, .inl f), (2, .inl y), (4, .inl kk), (5, .inl e), (7, .inl 0)]) ⟨rfl, rfl, rfl, rfl, rfl, rfl, trivial⟩ rfl rfl ?_
      have zS10 : zSh m0 m3 f.toNat kk (m0.1 37 0 f.toNat) e := by rw [hm3]; exact zSh_w hS hGm (by omega) (by omega)
      exact (zs257_l240 hc f hG h0 _) y kk e 0 m3 rfl (zB_mono hGm3 (by omega)) hFm3 (by omega) (by exact hP) (by exact hN) (by exact (show _ ∨ _ from hA).imp (fun z => ⟨z.1, z.2.1, by omega⟩) (fun z => ⟨z.1, z.2.1, z.2.2.1, by omega⟩)) (by exact zS10) (by omega) (by rw [hm3]; exact fun j hj => hz j (by omega)) (by omega) (by exact fun j hj => absurd hj (by omega))
    · show wW (zK sc) zM257 203 [(0, .inr (.inr (.inl (some (34, 0))))), (1, .inl f), (2, .inl y), (4, .inl kk), (5, .inl e), (7, .inl ii)] [] _ _ _
      have b11 : 0 ≤ m.1 35 0 ii.toNat ∧ m.1 35 0 ii.toNat ≤ 255 := hGm.1 35 _ rfl _ _
      refine ww_go 12 (pc' := 223) (L' := [(0, .inr (.inr (.inl (some (34, 0))))), (1, .inl f), (2, .inl y), (4, .inl kk), (5, .inl e), (7, .inl ii)]) (st' := []) (m' := wuI m 39 0 (((6 * kk) + ii).toNat) (m.1 35 0 ii.toNat)) (o := some ((0 < 1) ∧ (0 < 1) ∧ (0 < 1 ∧ 0 ≤ ii ∧ ii < ((6 : Nat) : Int)) ∧ (0 < 1 ∧ 0 ≤ (6 * kk) + ii ∧ (6 * kk) + ii < ((72 : Nat) : Int)))) rfl (show (0 < 1) ∧ (0 < 1) ∧ (0 < 1 ∧ 0 ≤ ii ∧ ii < ((6 : Nat) : Int)) ∧ (0 < 1 ∧ 0 ≤ (6 * kk) + ii ∧ (6 * kk) + ii < ((72 : Nat) : Int)) from by omega) ?_
      obtain ⟨m12, hm12⟩ : ∃ zq9 : wm, zq9 = wuI m 39 0 (((6 * kk) + ii).toNat) (m.1 35 0 ii.toNat) := ⟨_, rfl⟩
      rw [← hm12]
      have hGm12 : zB c m12 := by rw [hm12]; exact zB_wI rfl (show 0 ≤ m.1 35 0 ii.toNat ∧ m.1 35 0 ii.toNat ≤ 255 from by omega) hGm
      have hFm12 : zfr (fun k i j => (k = 38 ∧ 6 * f.toNat ≤ j ∧ j < 6 * f.toNat + 6 ∧ 0 ≤ f ∧ f ≤ 1) ∨ (k = 40 ∧ 6 * f.toNat ≤ j ∧ j < 6 * f.toNat + 6 ∧ 0 ≤ f ∧ f ≤ 1) ∨ (k = 39 ∧ 36 * f.toNat ≤ j ∧ j < 36 * f.toNat + 36 ∧ 0 ≤ f ∧ f ≤ 1) ∨ (k = 41 ∧ 576 * f.toNat ≤ j ∧ j < 576 * f.toNat + 576 ∧ 0 ≤ f ∧ f ≤ 1) ∨ (k = 37 ∧ j = f.toNat ∧ 0 ≤ f ∧ f ≤ 1) ∨ (k = 34 ∧ j = 0) ∨ (k = 34 ∧ j = 1) ∨ (k = 34 ∧ j = 2)) m0 m12 := by rw [hm12]; exact zfr_wI hFm (show (39 = 38 ∧ 6 * f.toNat ≤ (((6 * kk) + ii).toNat) ∧ (((6 * kk) + ii).toNat) < 6 * f.toNat + 6 ∧ 0 ≤ f ∧ f ≤ 1) ∨ (39 = 40 ∧ 6 * f.toNat ≤ (((6 * kk) + ii).toNat) ∧ (((6 * kk) + ii).toNat) < 6 * f.toNat + 6 ∧ 0 ≤ f ∧ f ≤ 1) ∨ (39 = 39 ∧ 36 * f.toNat ≤ (((6 * kk) + ii).toNat) ∧ (((6 * kk) + ii).toNat) < 36 * f.toNat + 36 ∧ 0 ≤ f ∧ f ≤ 1) ∨ (39 = 41 ∧ 576 * f.toNat ≤ (((6 * kk) + ii).toNat) ∧ (((6 * kk) + ii).toNat) < 576 * f.toNat + 576 ∧ 0 ≤ f ∧ f ≤ 1) ∨ (39 = 37 ∧ (((6 * kk) + ii).toNat) = f.toNat ∧ 0 ≤ f ∧ f ≤ 1) ∨ (39 = 34 ∧ (((6 * kk) + ii).toNat) = 0) ∨ (39 = 34 ∧ (((6 * kk) + ii).toNat) = 1) ∨ (39 = 34 ∧ (((6 * kk) + ii).toNat) = 2) from Or.inr (Or.inr (Or.inl ((show (39 = 39 ∧ 36 * f.toNat ≤ (((6 * kk) + ii).toNat) ∧ (((6 * kk) + ii).toNat) < 36 * f.toNat + 36 ∧ 0 ≤ f ∧ f ≤ 1) from by omega)))))
      have s13 : m12.1 39 0 (((6 * kk) + ii).toNat) = m.1 35 0 ii.toNat := by rw [hm12]; exact wuI_self
      have w14 : m12.1 34 0 0 = m.1 34 0 0 := by rw [hm12]; rfl
      have w15 : m12.1 34 0 1 = m.1 34 0 1 := by rw [hm12]; rfl
      have w16 : m12.1 34 0 2 = m.1 34 0 2 := by rw [hm12]; rfl
      have w17 : m12.1 37 0 f.toNat = m.1 37 0 f.toNat := by rw [hm12]; rfl
      have w18 : m12.1 38 0 kk.toNat = m.1 38 0 kk.toNat := by rw [hm12]; rfl
      refine ww_go 2 (pc' := 194) (L' := [(7, .inl (ii + 1)), (0, .inr (.inr (.inl (some (34, 0))))), (1, .inl f), (2, .inl y), (4, .inl kk), (5, .inl e)]) (st' := []) (m' := m12) (o := none) rfl trivial ?_
      refine ww_sub (L := [(0, .inr (.inr (.inl (some (34, 0))))), (1, .inl f), (2, .inl y), (4, .inl kk), (5, .inl e), (7, .inl (ii + 1))]) ⟨rfl, rfl, rfl, rfl, rfl, rfl, trivial⟩ rfl rfl ?_
      have zS19 : zSh m0 m12 f.toNat kk (m0.1 37 0 f.toNat) e := by rw [hm12]; exact zSh_w hS hGm (by omega) (by omega)
      exact (ih _ (by omega)) y kk e (ii + 1) m12 rfl (zB_mono hGm12 (by omega)) hFm12 (by omega) (by exact hP) (by exact hN) (by exact (show _ ∨ _ from hA).imp (fun z => ⟨z.1, z.2.1, by omega⟩) (fun z => ⟨z.1, z.2.1, z.2.2.1, by omega⟩)) (by exact zS19) (by omega) (by exact fun j hj => (Decidable.em ((j : Int) < ii)).elim (fun z => (by rw [hm12, wuI_nj (by omega)]; exact hz j z)) (fun z => (by rw [show 6 * kk.toNat + j = (6 * kk + ii).toNat from by omega, hm12, wuI_self, show j = ii.toNat from by omega]; exact (hFm 35 0 ii.toNat (show ¬ ((35 = 38 ∧ 6 * f.toNat ≤ ii.toNat ∧ ii.toNat < 6 * f.toNat + 6 ∧ 0 ≤ f ∧ f ≤ 1) ∨ (35 = 40 ∧ 6 * f.toNat ≤ ii.toNat ∧ ii.toNat < 6 * f.toNat + 6 ∧ 0 ≤ f ∧ f ≤ 1) ∨ (35 = 39 ∧ 36 * f.toNat ≤ ii.toNat ∧ ii.toNat < 36 * f.toNat + 36 ∧ 0 ≤ f ∧ f ≤ 1) ∨ (35 = 41 ∧ 576 * f.toNat ≤ ii.toNat ∧ ii.toNat < 576 * f.toNat + 576 ∧ 0 ≤ f ∧ f ≤ 1) ∨ (35 = 37 ∧ ii.toNat = f.toNat ∧ 0 ≤ f ∧ f ≤ 1) ∨ (35 = 34 ∧ ii.toNat = 0) ∨ (35 = 34 ∧ ii.toNat = 1) ∨ (35 = 34 ∧ ii.toNat = 2)) from by omega)).1)))
set_option maxRecDepth 8000 in
theorem zs257_l147 {sc : xSc} {n : Nat × Nat} {m0 : wm} {c : Int} (hc : 0 ≤ c ∧ c ≤ 1000000) (f : Int) (hG : zB c m0) (h0 : -2147483648 ≤ f ∧ f ≤ 2147483647) : ∀ (d : Nat), ∀ (y : Int) (kk : Int) (e : Int) (ii : Int) (m : wm), (ii - kk).toNat = d → zB c m → zfr (fun k i j => (k = 38 ∧ 6 * f.toNat ≤ j ∧ j < 6 * f.toNat + 6 ∧ 0 ≤ f ∧ f ≤ 1) ∨ (k = 40 ∧ 6 * f.toNat ≤ j ∧ j < 6 * f.toNat + 6 ∧ 0 ≤ f ∧ f ≤ 1) ∨ (k = 39 ∧ 36 * f.toNat ≤ j ∧ j < 36 * f.toNat + 36 ∧ 0 ≤ f ∧ f ≤ 1) ∨ (k = 41 ∧ 576 * f.toNat ≤ j ∧ j < 576 * f.toNat + 576 ∧ 0 ≤ f ∧ f ≤ 1) ∨ (k = 37 ∧ j = f.toNat ∧ 0 ≤ f ∧ f ≤ 1) ∨ (k = 34 ∧ j = 0) ∨ (k = 34 ∧ j = 1) ∨ (k = 34 ∧ j = 2)) m0 m → (0 ≤ f ∧ f ≤ 1 ∧ 6 * f ≤ kk ∧ kk ≤ 6 * f + m0.1 37 0 f.toNat ∧ kk ≤ 6 * f + 5 ∧ y = m0.1 34 0 2 ∧ m.1 34 0 2 = 0 ∧ m.1 34 0 0 = 0 ∧ m.1 34 0 1 = m0.1 34 0 1 ∧ kk ≤ ii ∧ ii ≤ 6 * f + m0.1 37 0 f.toNat ∧ m0.1 37 0 f.toNat ≤ 5 ∧ e = 0 ∧ m.1 37 0 f.toNat = m0.1 37 0 f.toNat) → (zPl (fun x => zNR m0 (6 * f.toNat + x)) (m0.1 37 0 f.toNat) (zNH m0) (kk - 6 * f)) → (zNm (zNH m0)) → (¬ zAt (fun x => zNR m0 (6 * f.toNat + x)) (m0.1 37 0 f.toNat) (zNH m0) (kk - 6 * f)) → (zSi m0 m f.toNat ii (m0.1 37 0 f.toNat)) →  wW (zK sc) zM257 147 [(0, .inr (.inr (.inl (some (34, 0))))), (1, .inl f), (2, .inl y), (4, .inl kk), (5, .inl e), (7, .inl ii)] [] n m (wr (fun vv n1 m1 => ∃ r : Int, vv = some (.inl r) ∧ n = n1 ∧ zB c m1 ∧ zfr (fun k i j => (k = 38 ∧ 6 * f.toNat ≤ j ∧ j < 6 * f.toNat + 6 ∧ 0 ≤ f ∧ f ≤ 1) ∨ (k = 40 ∧ 6 * f.toNat ≤ j ∧ j < 6 * f.toNat + 6 ∧ 0 ≤ f ∧ f ≤ 1) ∨ (k = 39 ∧ 36 * f.toNat ≤ j ∧ j < 36 * f.toNat + 36 ∧ 0 ≤ f ∧ f ≤ 1) ∨ (k = 41 ∧ 576 * f.toNat ≤ j ∧ j < 576 * f.toNat + 576 ∧ 0 ≤ f ∧ f ≤ 1) ∨ (k = 37 ∧ j = f.toNat ∧ 0 ≤ f ∧ f ≤ 1) ∨ (k = 34 ∧ j = 0) ∨ (k = 34 ∧ j = 1) ∨ (k = 34 ∧ j = 2)) m0 m1 ∧ (m1.1 34 0 1 = 0 ∧ m1.1 34 0 2 = 0 ∧ ((m1.1 34 0 0 = 1 ∧ (f < 0 ∨ 1 < f ∨ ¬ zNm (zNH m0)) ∧ m1.1 37 0 = m0.1 37 0 ∧ ∀ q, zFR m1 q = zFR m0 q) ∨ (0 ≤ f ∧ f ≤ 1 ∧ zNm (zNH m0) ∧ (m1.1 34 0 0 = 2 ∧ zPut (fun x => zFR m0 (6 * f.toNat + x)) (m0.1 37 0 f.toNat) (zNH m0) (zDH m0) (fun x => zFR m1 (6 * f.toNat + x)) (m1.1 37 0 f.toNat) 0 ∨ m1.1 34 0 0 = 0 ∧ zPut (fun x => zFR m0 (6 * f.toNat + x)) (m0.1 37 0 f.toNat) (zNH m0) (zDH m0) (fun x => zFR m1 (6 * f.toNat + x)) (m1.1 37 0 f.toNat) r ∧ 1 ≤ r)))))) := by
  intro d
  induction d using Nat.strongRecOn with
  | ind d ih =>
    intro y kk e ii m hd hGm hFm hi hP hN hA hS
    have b0 : 0 ≤ m0.1 37 0 f.toNat ∧ m0.1 37 0 f.toNat ≤ 6 := hG.1 37 _ rfl _ _
    have bn9 : 0 ≤ m0.1 34 0 1 ∧ m0.1 34 0 1 ≤ 6 := hG.1 34 _ rfl 0 1
    have bg9 : 0 ≤ m0.1 34 0 2 ∧ m0.1 34 0 2 ≤ 96 := hG.1 34 _ rfl 0 2
    refine ww_go 2 (pc' := 151) (L' := [(0, .inr (.inr (.inl (some (34, 0))))), (1, .inl f), (2, .inl y), (4, .inl kk), (5, .inl e), (7, .inl ii)]) (st' := [.inl kk, .inl ii]) (m' := m) (o := none) rfl trivial ?_
    refine ww_ic (t := 170) rfl rfl (by omega) (fun (h1 : ii ≤ kk) => ?_) (fun (h1 : ¬ (ii ≤ kk)) => ?_)
    · show wW (zK sc) zM257 170 [(0, .inr (.inr (.inl (some (34, 0))))), (1, .inl f), (2, .inl y), (4, .inl kk), (5, .inl e), (7, .inl ii)] [] _ _ _
      have b2 : 0 ≤ m.1 37 0 f.toNat ∧ m.1 37 0 f.toNat ≤ 6 := hGm.1 37 _ rfl _ _
      refine ww_go 8 (pc' := 180) (L' := [(0, .inr (.inr (.inl (some (34, 0))))), (1, .inl f), (2, .inl y), (4, .inl kk), (5, .inl e), (7, .inl ii)]) (st' := []) (m' := wuI m 37 0 f.toNat ((m.1 37 0 f.toNat) + 1)) (o := some ((0 < 1) ∧ (0 < 1 ∧ 0 ≤ f ∧ f < ((2 : Nat) : Int)) ∧ (0 < 1 ∧ 0 ≤ f ∧ f < ((2 : Nat) : Int)))) rfl (show (0 < 1) ∧ (0 < 1 ∧ 0 ≤ f ∧ f < ((2 : Nat) : Int)) ∧ (0 < 1 ∧ 0 ≤ f ∧ f < ((2 : Nat) : Int)) from by omega) ?_
      obtain ⟨m3, hm3⟩ : ∃ zq9 : wm, zq9 = wuI m 37 0 f.toNat ((m.1 37 0 f.toNat) + 1) := ⟨_, rfl⟩
      rw [← hm3]
      have hGm3 : zB c m3 := by rw [hm3]; exact zB_wI rfl (show 0 ≤ (m.1 37 0 f.toNat) + 1 ∧ (m.1 37 0 f.toNat) + 1 ≤ 6 from by omega) hGm
      have hFm3 : zfr (fun k i j => (k = 38 ∧ 6 * f.toNat ≤ j ∧ j < 6 * f.toNat + 6 ∧ 0 ≤ f ∧ f ≤ 1) ∨ (k = 40 ∧ 6 * f.toNat ≤ j ∧ j < 6 * f.toNat + 6 ∧ 0 ≤ f ∧ f ≤ 1) ∨ (k = 39 ∧ 36 * f.toNat ≤ j ∧ j < 36 * f.toNat + 36 ∧ 0 ≤ f ∧ f ≤ 1) ∨ (k = 41 ∧ 576 * f.toNat ≤ j ∧ j < 576 * f.toNat + 576 ∧ 0 ≤ f ∧ f ≤ 1) ∨ (k = 37 ∧ j = f.toNat ∧ 0 ≤ f ∧ f ≤ 1) ∨ (k = 34 ∧ j = 0) ∨ (k = 34 ∧ j = 1) ∨ (k = 34 ∧ j = 2)) m0 m3 := by rw [hm3]; exact zfr_wI hFm (show (37 = 38 ∧ 6 * f.toNat ≤ f.toNat ∧ f.toNat < 6 * f.toNat + 6 ∧ 0 ≤ f ∧ f ≤ 1) ∨ (37 = 40 ∧ 6 * f.toNat ≤ f.toNat ∧ f.toNat < 6 * f.toNat + 6 ∧ 0 ≤ f ∧ f ≤ 1) ∨ (37 = 39 ∧ 36 * f.toNat ≤ f.toNat ∧ f.toNat < 36 * f.toNat + 36 ∧ 0 ≤ f ∧ f ≤ 1) ∨ (37 = 41 ∧ 576 * f.toNat ≤ f.toNat ∧ f.toNat < 576 * f.toNat + 576 ∧ 0 ≤ f ∧ f ≤ 1) ∨ (37 = 37 ∧ f.toNat = f.toNat ∧ 0 ≤ f ∧ f ≤ 1) ∨ (37 = 34 ∧ f.toNat = 0) ∨ (37 = 34 ∧ f.toNat = 1) ∨ (37 = 34 ∧ f.toNat = 2) from Or.inr (Or.inr (Or.inr (Or.inr (Or.inl ((show (37 = 37 ∧ f.toNat = f.toNat ∧ 0 ≤ f ∧ f ≤ 1) from by omega)))))))
      have s4 : m3.1 37 0 f.toNat = (m.1 37 0 f.toNat) + 1 := by rw [hm3]; exact wuI_self
      have w5 : m3.1 34 0 0 = m.1 34 0 0 := by rw [hm3]; rfl
      have w6 : m3.1 34 0 1 = m.1 34 0 1 := by rw [hm3]; rfl
      have w7 : m3.1 34 0 2 = m.1 34 0 2 := by rw [hm3]; rfl
      have b8 : 0 ≤ m3.1 34 0 1 ∧ m3.1 34 0 1 ≤ 6 := hGm3.1 34 _ rfl _ _
      refine ww_go 6 (pc' := 191) (L' := [(0, .inr (.inr (.inl (some (34, 0))))), (1, .inl f), (2, .inl y), (4, .inl kk), (5, .inl e), (7, .inl ii)]) (st' := []) (m' := wuI m3 38 0 kk.toNat (m3.1 34 0 1)) (o := some ((0 < 1) ∧ (0 < 1) ∧ (0 < 1 ∧ 0 ≤ kk ∧ kk < ((12 : Nat) : Int)))) rfl (show (0 < 1) ∧ (0 < 1) ∧ (0 < 1 ∧ 0 ≤ kk ∧ kk < ((12 : Nat) : Int)) from by omega) ?_
      obtain ⟨m9, hm9⟩ : ∃ zq9 : wm, zq9 = wuI m3 38 0 kk.toNat (m3.1 34 0 1) := ⟨_, rfl⟩
      rw [← hm9]
      have hGm9 : zB c m9 := by rw [hm9]; exact zB_wI rfl (show 0 ≤ m3.1 34 0 1 ∧ m3.1 34 0 1 ≤ 6 from by omega) hGm3
      have hFm9 : zfr (fun k i j => (k = 38 ∧ 6 * f.toNat ≤ j ∧ j < 6 * f.toNat + 6 ∧ 0 ≤ f ∧ f ≤ 1) ∨ (k = 40 ∧ 6 * f.toNat ≤ j ∧ j < 6 * f.toNat + 6 ∧ 0 ≤ f ∧ f ≤ 1) ∨ (k = 39 ∧ 36 * f.toNat ≤ j ∧ j < 36 * f.toNat + 36 ∧ 0 ≤ f ∧ f ≤ 1) ∨ (k = 41 ∧ 576 * f.toNat ≤ j ∧ j < 576 * f.toNat + 576 ∧ 0 ≤ f ∧ f ≤ 1) ∨ (k = 37 ∧ j = f.toNat ∧ 0 ≤ f ∧ f ≤ 1) ∨ (k = 34 ∧ j = 0) ∨ (k = 34 ∧ j = 1) ∨ (k = 34 ∧ j = 2)) m0 m9 := by rw [hm9]; exact zfr_wI hFm3 (show (38 = 38 ∧ 6 * f.toNat ≤ kk.toNat ∧ kk.toNat < 6 * f.toNat + 6 ∧ 0 ≤ f ∧ f ≤ 1) ∨ (38 = 40 ∧ 6 * f.toNat ≤ kk.toNat ∧ kk.toNat < 6 * f.toNat + 6 ∧ 0 ≤ f ∧ f ≤ 1) ∨ (38 = 39 ∧ 36 * f.toNat ≤ kk.toNat ∧ kk.toNat < 36 * f.toNat + 36 ∧ 0 ≤ f ∧ f ≤ 1) ∨ (38 = 41 ∧ 576 * f.toNat ≤ kk.toNat ∧ kk.toNat < 576 * f.toNat + 576 ∧ 0 ≤ f ∧ f ≤ 1) ∨ (38 = 37 ∧ kk.toNat = f.toNat ∧ 0 ≤ f ∧ f ≤ 1) ∨ (38 = 34 ∧ kk.toNat = 0) ∨ (38 = 34 ∧ kk.toNat = 1) ∨ (38 = 34 ∧ kk.toNat = 2) from Or.inl ((show (38 = 38 ∧ 6 * f.toNat ≤ kk.toNat ∧ kk.toNat < 6 * f.toNat + 6 ∧ 0 ≤ f ∧ f ≤ 1) from by omega)))
      have s10 : m9.1 38 0 kk.toNat = m3.1 34 0 1 := by rw [hm9]; exact wuI_self
      have w11 : m9.1 34 0 0 = m3.1 34 0 0 := by rw [hm9]; rfl
      have w12 : m9.1 34 0 1 = m3.1 34 0 1 := by rw [hm9]; rfl
      have w13 : m9.1 34 0 2 = m3.1 34 0 2 := by rw [hm9]; rfl
      have w14 : m9.1 37 0 f.toNat = m3.1 37 0 f.toNat := by rw [hm9]; rfl
      refine ww_go 2 (pc' := 194) (L' := [(7, .inl 0), (0, .inr (.inr (.inl (some (34, 0))))), (1, .inl f), (2, .inl y), (4, .inl kk), (5, .inl e)]) (st' := []) (m' := m9) (o := none) rfl trivial ?_
      refine ww_sub (L := [(0, .inr (.inr (.inl (some (34, 0))))), (1, .inl f), (2, .inl y), (4, .inl kk), (5, .inl e), (7, .inl 0)]) ⟨rfl, rfl, rfl, rfl, rfl, rfl, trivial⟩ rfl rfl ?_
      have zS15 : zSh m0 m f.toNat kk (m0.1 37 0 f.toNat) e := by rw [show e = 0 from by omega]; exact zSi_h (by rw [show kk = ii from by omega]; exact hS)
      have zS16 : zSh m0 m3 f.toNat kk (m0.1 37 0 f.toNat) e := by rw [hm3]; exact zSh_w zS15 hGm (by omega) (by omega)
      have zS17 : zSh m0 m9 f.toNat kk (m0.1 37 0 f.toNat) e := by rw [hm9]; exact zSh_w zS16 hGm3 (by omega) (by omega)
      exact (zs257_l194 hc f hG h0 _) y kk e 0 m9 rfl (zB_mono hGm9 (by omega)) hFm9 (by omega) (by exact hP) (by exact hN) (by exact Or.inr ⟨hA, by omega, by omega, by omega⟩) (by exact zS17) (by omega) (by exact fun j hj => absurd hj (by omega))
    · show wW (zK sc) zM257 154 [(0, .inr (.inr (.inl (some (34, 0))))), (1, .inl f), (2, .inl y), (4, .inl kk), (5, .inl e), (7, .inl ii)] [] _ _ _
      refine ww_go 5 (pc' := 161) (L' := [(0, .inr (.inr (.inl (some (34, 0))))), (1, .inl f), (2, .inl y), (4, .inl kk), (5, .inl e), (7, .inl ii)]) (st' := [.inl ii, .inl (ii - 1), .inr (.inr (.inl (some (34, 0))))]) (m' := m) (o := none) rfl trivial ?_
      refine ww_call (vs := [.inr (.inr (.inl (some (34, 0)))), .inl (ii - 1), .inl ii]) (r := []) (p := 0 < 1) rfl rfl rfl rfl (show 0 < 1 from by omega) (zs224 (c := c) (by omega) (ii - 1) ii hGm (by omega)) ?_
      rintro _ _ m20 ⟨rfl, rfl, hGm20, hEm20, hr19⟩
      have hFm20 : zfr (fun k i j => (k = 38 ∧ 6 * f.toNat ≤ j ∧ j < 6 * f.toNat + 6 ∧ 0 ≤ f ∧ f ≤ 1) ∨ (k = 40 ∧ 6 * f.toNat ≤ j ∧ j < 6 * f.toNat + 6 ∧ 0 ≤ f ∧ f ≤ 1) ∨ (k = 39 ∧ 36 * f.toNat ≤ j ∧ j < 36 * f.toNat + 36 ∧ 0 ≤ f ∧ f ≤ 1) ∨ (k = 41 ∧ 576 * f.toNat ≤ j ∧ j < 576 * f.toNat + 576 ∧ 0 ≤ f ∧ f ≤ 1) ∨ (k = 37 ∧ j = f.toNat ∧ 0 ≤ f ∧ f ≤ 1) ∨ (k = 34 ∧ j = 0) ∨ (k = 34 ∧ j = 1) ∨ (k = 34 ∧ j = 2)) m0 m20 := zfr_tr hFm hEm20 (fun k i j z => Or.elim z (fun z => (show (k = 38 ∧ 6 * f.toNat ≤ j ∧ j < 6 * f.toNat + 6 ∧ 0 ≤ f ∧ f ≤ 1) ∨ (k = 40 ∧ 6 * f.toNat ≤ j ∧ j < 6 * f.toNat + 6 ∧ 0 ≤ f ∧ f ≤ 1) ∨ (k = 39 ∧ 36 * f.toNat ≤ j ∧ j < 36 * f.toNat + 36 ∧ 0 ≤ f ∧ f ≤ 1) ∨ (k = 41 ∧ 576 * f.toNat ≤ j ∧ j < 576 * f.toNat + 576 ∧ 0 ≤ f ∧ f ≤ 1) ∨ (k = 37 ∧ j = f.toNat ∧ 0 ≤ f ∧ f ≤ 1) ∨ (k = 34 ∧ j = 0) ∨ (k = 34 ∧ j = 1) ∨ (k = 34 ∧ j = 2) from Or.inl ((show k = 38 ∧ 6 * f.toNat ≤ j ∧ j < 6 * f.toNat + 6 ∧ 0 ≤ f ∧ f ≤ 1 from by omega)))) (fun z => Or.elim z (fun z => (show (k = 38 ∧ 6 * f.toNat ≤ j ∧ j < 6 * f.toNat + 6 ∧ 0 ≤ f ∧ f ≤ 1) ∨ (k = 40 ∧ 6 * f.toNat ≤ j ∧ j < 6 * f.toNat + 6 ∧ 0 ≤ f ∧ f ≤ 1) ∨ (k = 39 ∧ 36 * f.toNat ≤ j ∧ j < 36 * f.toNat + 36 ∧ 0 ≤ f ∧ f ≤ 1) ∨ (k = 41 ∧ 576 * f.toNat ≤ j ∧ j < 576 * f.toNat + 576 ∧ 0 ≤ f ∧ f ≤ 1) ∨ (k = 37 ∧ j = f.toNat ∧ 0 ≤ f ∧ f ≤ 1) ∨ (k = 34 ∧ j = 0) ∨ (k = 34 ∧ j = 1) ∨ (k = 34 ∧ j = 2) from Or.inr (Or.inl ((show k = 40 ∧ 6 * f.toNat ≤ j ∧ j < 6 * f.toNat + 6 ∧ 0 ≤ f ∧ f ≤ 1 from by omega))))) (fun z => Or.elim z (fun z => (show (k = 38 ∧ 6 * f.toNat ≤ j ∧ j < 6 * f.toNat + 6 ∧ 0 ≤ f ∧ f ≤ 1) ∨ (k = 40 ∧ 6 * f.toNat ≤ j ∧ j < 6 * f.toNat + 6 ∧ 0 ≤ f ∧ f ≤ 1) ∨ (k = 39 ∧ 36 * f.toNat ≤ j ∧ j < 36 * f.toNat + 36 ∧ 0 ≤ f ∧ f ≤ 1) ∨ (k = 41 ∧ 576 * f.toNat ≤ j ∧ j < 576 * f.toNat + 576 ∧ 0 ≤ f ∧ f ≤ 1) ∨ (k = 37 ∧ j = f.toNat ∧ 0 ≤ f ∧ f ≤ 1) ∨ (k = 34 ∧ j = 0) ∨ (k = 34 ∧ j = 1) ∨ (k = 34 ∧ j = 2) from Or.inr (Or.inr (Or.inl ((show k = 39 ∧ 36 * f.toNat ≤ j ∧ j < 36 * f.toNat + 36 ∧ 0 ≤ f ∧ f ≤ 1 from by omega)))))) (fun z => (show (k = 38 ∧ 6 * f.toNat ≤ j ∧ j < 6 * f.toNat + 6 ∧ 0 ≤ f ∧ f ≤ 1) ∨ (k = 40 ∧ 6 * f.toNat ≤ j ∧ j < 6 * f.toNat + 6 ∧ 0 ≤ f ∧ f ≤ 1) ∨ (k = 39 ∧ 36 * f.toNat ≤ j ∧ j < 36 * f.toNat + 36 ∧ 0 ≤ f ∧ f ≤ 1) ∨ (k = 41 ∧ 576 * f.toNat ≤ j ∧ j < 576 * f.toNat + 576 ∧ 0 ≤ f ∧ f ≤ 1) ∨ (k = 37 ∧ j = f.toNat ∧ 0 ≤ f ∧ f ≤ 1) ∨ (k = 34 ∧ j = 0) ∨ (k = 34 ∧ j = 1) ∨ (k = 34 ∧ j = 2) from Or.inr (Or.inr (Or.inr (Or.inl ((show k = 41 ∧ 576 * f.toNat ≤ j ∧ j < 576 * f.toNat + 576 ∧ 0 ≤ f ∧ f ≤ 1 from by omega))))))))))
      have w21 : m20.1 34 0 0 = m.1 34 0 0 := (hEm20 34 0 0 (show ¬ ((34 = 38 ∧ 0 = ii.toNat) ∨ (34 = 40 ∧ 0 = ii.toNat) ∨ (34 = 39 ∧ 6 * ii.toNat ≤ 0 ∧ 0 < 6 * ii.toNat + 6) ∨ (34 = 41 ∧ 96 * ii.toNat ≤ 0 ∧ 0 < 96 * ii.toNat + 96)) from by omega)).1
      have w22 : m20.1 34 0 1 = m.1 34 0 1 := (hEm20 34 0 1 (show ¬ ((34 = 38 ∧ 1 = ii.toNat) ∨ (34 = 40 ∧ 1 = ii.toNat) ∨ (34 = 39 ∧ 6 * ii.toNat ≤ 1 ∧ 1 < 6 * ii.toNat + 6) ∨ (34 = 41 ∧ 96 * ii.toNat ≤ 1 ∧ 1 < 96 * ii.toNat + 96)) from by omega)).1
      have w23 : m20.1 34 0 2 = m.1 34 0 2 := (hEm20 34 0 2 (show ¬ ((34 = 38 ∧ 2 = ii.toNat) ∨ (34 = 40 ∧ 2 = ii.toNat) ∨ (34 = 39 ∧ 6 * ii.toNat ≤ 2 ∧ 2 < 6 * ii.toNat + 6) ∨ (34 = 41 ∧ 96 * ii.toNat ≤ 2 ∧ 2 < 96 * ii.toNat + 96)) from by omega)).1
      have w24 : m20.1 37 0 f.toNat = m.1 37 0 f.toNat := (hEm20 37 0 f.toNat (show ¬ ((37 = 38 ∧ f.toNat = ii.toNat) ∨ (37 = 40 ∧ f.toNat = ii.toNat) ∨ (37 = 39 ∧ 6 * ii.toNat ≤ f.toNat ∧ f.toNat < 6 * ii.toNat + 6) ∨ (37 = 41 ∧ 96 * ii.toNat ≤ f.toNat ∧ f.toNat < 96 * ii.toNat + 96)) from by omega)).1
      show wW (zK sc) zM257 164 [(0, .inr (.inr (.inl (some (34, 0))))), (1, .inl f), (2, .inl y), (4, .inl kk), (5, .inl e), (7, .inl ii)] [] _ _ _
      refine ww_go 2 (pc' := 147) (L' := [(7, .inl (ii + (-1))), (0, .inr (.inr (.inl (some (34, 0))))), (1, .inl f), (2, .inl y), (4, .inl kk), (5, .inl e)]) (st' := []) (m' := m20) (o := none) rfl trivial ?_
      refine ww_sub (L := [(0, .inr (.inr (.inl (some (34, 0))))), (1, .inl f), (2, .inl y), (4, .inl kk), (5, .inl e), (7, .inl (ii + (-1)))]) ⟨rfl, rfl, rfl, rfl, rfl, rfl, trivial⟩ rfl rfl ?_
      exact (ih _ (by omega)) y kk e (ii + (-1)) m20 rfl (zB_mono hGm20 (by omega)) hFm20 (by omega) (by exact hP) (by exact hN) (by exact hA) (by exact zSi_s hS hGm hEm20 (fun k i j z => by have z9 : (k = 38 ∧ j = ii.toNat) ∨ (k = 40 ∧ j = ii.toNat) ∨ (k = 39 ∧ 6 * ii.toNat ≤ j ∧ j < 6 * ii.toNat + 6) ∨ (k = 41 ∧ 96 * ii.toNat ≤ j ∧ j < 96 * ii.toNat + 96) := z; omega) hr19 (by omega) (by omega))
set_option maxRecDepth 8000 in
/-- Mo.write -/
theorem zs257 {sc : xSc} {n : Nat × Nat} {m0 : wm} {c : Int} (hc : 0 ≤ c ∧ c ≤ 1000000) (f : Int) (hG : zB c m0) (h0 : -2147483648 ≤ f ∧ f ≤ 2147483647) : wX (zK sc) 257 [.inr (.inr (.inl (some (34, 0)))), .inl f] n m0 (wr (fun vv n1 m1 => ∃ r : Int, vv = some (.inl r) ∧ n = n1 ∧ zB c m1 ∧ zfr (fun k i j => (k = 38 ∧ 6 * f.toNat ≤ j ∧ j < 6 * f.toNat + 6 ∧ 0 ≤ f ∧ f ≤ 1) ∨ (k = 40 ∧ 6 * f.toNat ≤ j ∧ j < 6 * f.toNat + 6 ∧ 0 ≤ f ∧ f ≤ 1) ∨ (k = 39 ∧ 36 * f.toNat ≤ j ∧ j < 36 * f.toNat + 36 ∧ 0 ≤ f ∧ f ≤ 1) ∨ (k = 41 ∧ 576 * f.toNat ≤ j ∧ j < 576 * f.toNat + 576 ∧ 0 ≤ f ∧ f ≤ 1) ∨ (k = 37 ∧ j = f.toNat ∧ 0 ≤ f ∧ f ≤ 1) ∨ (k = 34 ∧ j = 0) ∨ (k = 34 ∧ j = 1) ∨ (k = 34 ∧ j = 2)) m0 m1 ∧ (m1.1 34 0 1 = 0 ∧ m1.1 34 0 2 = 0 ∧ ((m1.1 34 0 0 = 1 ∧ (f < 0 ∨ 1 < f ∨ ¬ zNm (zNH m0)) ∧ m1.1 37 0 = m0.1 37 0 ∧ ∀ q, zFR m1 q = zFR m0 q) ∨ (0 ≤ f ∧ f ≤ 1 ∧ zNm (zNH m0) ∧ (m1.1 34 0 0 = 2 ∧ zPut (fun x => zFR m0 (6 * f.toNat + x)) (m0.1 37 0 f.toNat) (zNH m0) (zDH m0) (fun x => zFR m1 (6 * f.toNat + x)) (m1.1 37 0 f.toNat) 0 ∨ m1.1 34 0 0 = 0 ∧ zPut (fun x => zFR m0 (6 * f.toNat + x)) (m0.1 37 0 f.toNat) (zNH m0) (zDH m0) (fun x => zFR m1 (6 * f.toNat + x)) (m1.1 37 0 f.toNat) r ∧ 1 ≤ r)))))) := by
  refine wX_of (N := zM257) rfl (Nat.le_of_ble_eq_true rfl) ?_
  show wW (zK sc) zM257 0 [(0, .inr (.inr (.inl (some (34, 0))))), (1, .inl f)] [] n m0 _
  have hF : zfr (fun k i j => (k = 38 ∧ 6 * f.toNat ≤ j ∧ j < 6 * f.toNat + 6 ∧ 0 ≤ f ∧ f ≤ 1) ∨ (k = 40 ∧ 6 * f.toNat ≤ j ∧ j < 6 * f.toNat + 6 ∧ 0 ≤ f ∧ f ≤ 1) ∨ (k = 39 ∧ 36 * f.toNat ≤ j ∧ j < 36 * f.toNat + 36 ∧ 0 ≤ f ∧ f ≤ 1) ∨ (k = 41 ∧ 576 * f.toNat ≤ j ∧ j < 576 * f.toNat + 576 ∧ 0 ≤ f ∧ f ≤ 1) ∨ (k = 37 ∧ j = f.toNat ∧ 0 ≤ f ∧ f ≤ 1) ∨ (k = 34 ∧ j = 0) ∨ (k = 34 ∧ j = 1) ∨ (k = 34 ∧ j = 2)) m0 m0 := zfr_rf
  have b0 : 0 ≤ m0.1 37 0 f.toNat ∧ m0.1 37 0 f.toNat ≤ 6 := hG.1 37 _ rfl _ _
  have bn9 : 0 ≤ m0.1 34 0 1 ∧ m0.1 34 0 1 ≤ 6 := hG.1 34 _ rfl 0 1
  have bg9 : 0 ≤ m0.1 34 0 2 ∧ m0.1 34 0 2 ≤ 96 := hG.1 34 _ rfl 0 2
  have b1 : 0 ≤ m0.1 34 0 2 ∧ m0.1 34 0 2 ≤ 96 := hG.1 34 _ rfl _ _
  refine ww_go 6 (pc' := 10) (L' := [(2, .inl (m0.1 34 0 2)), (0, .inr (.inr (.inl (some (34, 0))))), (1, .inl f)]) (st' := []) (m' := wuI m0 34 0 2 0) (o := some ((0 < 1) ∧ (0 < 1))) rfl (show (0 < 1) ∧ (0 < 1) from by omega) ?_
  obtain ⟨m2, hm2⟩ : ∃ zq9 : wm, zq9 = wuI m0 34 0 2 0 := ⟨_, rfl⟩
  rw [← hm2]
  have hGm2 : zB c m2 := by rw [hm2]; exact zB_wI rfl (show 0 ≤ (0 : Int) ∧ (0 : Int) ≤ 96 from by omega) hG
  have hFm2 : zfr (fun k i j => (k = 38 ∧ 6 * f.toNat ≤ j ∧ j < 6 * f.toNat + 6 ∧ 0 ≤ f ∧ f ≤ 1) ∨ (k = 40 ∧ 6 * f.toNat ≤ j ∧ j < 6 * f.toNat + 6 ∧ 0 ≤ f ∧ f ≤ 1) ∨ (k = 39 ∧ 36 * f.toNat ≤ j ∧ j < 36 * f.toNat + 36 ∧ 0 ≤ f ∧ f ≤ 1) ∨ (k = 41 ∧ 576 * f.toNat ≤ j ∧ j < 576 * f.toNat + 576 ∧ 0 ≤ f ∧ f ≤ 1) ∨ (k = 37 ∧ j = f.toNat ∧ 0 ≤ f ∧ f ≤ 1) ∨ (k = 34 ∧ j = 0) ∨ (k = 34 ∧ j = 1) ∨ (k = 34 ∧ j = 2)) m0 m2 := by rw [hm2]; exact zfr_wI hF (show (34 = 38 ∧ 6 * f.toNat ≤ 2 ∧ 2 < 6 * f.toNat + 6 ∧ 0 ≤ f ∧ f ≤ 1) ∨ (34 = 40 ∧ 6 * f.toNat ≤ 2 ∧ 2 < 6 * f.toNat + 6 ∧ 0 ≤ f ∧ f ≤ 1) ∨ (34 = 39 ∧ 36 * f.toNat ≤ 2 ∧ 2 < 36 * f.toNat + 36 ∧ 0 ≤ f ∧ f ≤ 1) ∨ (34 = 41 ∧ 576 * f.toNat ≤ 2 ∧ 2 < 576 * f.toNat + 576 ∧ 0 ≤ f ∧ f ≤ 1) ∨ (34 = 37 ∧ 2 = f.toNat ∧ 0 ≤ f ∧ f ≤ 1) ∨ (34 = 34 ∧ 2 = 0) ∨ (34 = 34 ∧ 2 = 1) ∨ (34 = 34 ∧ 2 = 2) from Or.inr (Or.inr (Or.inr (Or.inr (Or.inr (Or.inr (Or.inr (⟨rfl, rfl⟩))))))))
  have s3 : m2.1 34 0 2 = (0 : Int) := by rw [hm2]; exact wuI_self
  have w4 : m2.1 34 0 0 = m0.1 34 0 0 := by rw [hm2]; exact wuI_nj (by omega)
  have w5 : m2.1 34 0 1 = m0.1 34 0 1 := by rw [hm2]; exact wuI_nj (by omega)
  have w6 : m2.1 37 0 f.toNat = m0.1 37 0 f.toNat := by rw [hm2]; rfl
  refine ww_go 3 (pc' := 13) (L' := [(2, .inl (m0.1 34 0 2)), (0, .inr (.inr (.inl (some (34, 0))))), (1, .inl f)]) (st' := [.inl 1, .inl 0, .inl f]) (m' := m2) (o := none) rfl trivial ?_
  refine ww_call (vs := [.inl f, .inl 0, .inl 1]) (r := []) (p := True) rfl rfl rfl rfl trivial (zs207 f 0 1 (by omega)) ?_
  rintro _ _ _ ⟨r7, rfl, rfl, rfl, hr8⟩
  show wW (zK sc) zM257 16 [(2, .inl (m0.1 34 0 2)), (0, .inr (.inr (.inl (some (34, 0))))), (1, .inl f)] [.inl r7] _ _ _
  refine ww_if (t := 26) rfl rfl (by omega) (fun (h9 : r7 = 0) => ?_) (fun (h9 : ¬ (r7 = 0)) => ?_)
  · show wW (zK sc) zM257 26 [(2, .inl (m0.1 34 0 2)), (0, .inr (.inr (.inl (some (34, 0))))), (1, .inl f)] [] _ _ _
    refine ww_go 4 (pc' := 33) (L' := [(3, .inl 1), (2, .inl (m0.1 34 0 2)), (0, .inr (.inr (.inl (some (34, 0))))), (1, .inl f)]) (st' := [.inl 1]) (m' := m2) (o := none) rfl trivial ?_
    refine ww_if (t := 40) rfl rfl (by decide) (fun (h10 : (1 : Int) = 0) => absurd h10 (by decide)) (fun (h10 : ¬ ((1 : Int) = 0)) => ?_)
    show wW (zK sc) zM257 36 [(3, .inl 1), (2, .inl (m0.1 34 0 2)), (0, .inr (.inr (.inl (some (34, 0))))), (1, .inl f)] [] _ _ _
    refine ww_go 4 (pc' := 48) (L' := [(4, .inl 0), (3, .inl 1), (2, .inl (m0.1 34 0 2)), (0, .inr (.inr (.inl (some (34, 0))))), (1, .inl f)]) (st' := [.inl 1]) (m' := m2) (o := none) rfl trivial ?_
    refine ww_if (t := 65) rfl rfl (by decide) (fun (h11 : (1 : Int) ≠ 0) => ?_) (fun (h11 : ¬ ((1 : Int) ≠ 0)) => absurd (show (1 : Int) ≠ 0 from by decide) h11)
    show wW (zK sc) zM257 65 [(4, .inl 0), (3, .inl 1), (2, .inl (m0.1 34 0 2)), (0, .inr (.inr (.inl (some (34, 0))))), (1, .inl f)] [] _ _ _
    refine ww_go 3 (pc' := 69) (L' := [(5, .inl 0), (4, .inl 0), (3, .inl 1), (2, .inl (m0.1 34 0 2)), (0, .inr (.inr (.inl (some (34, 0))))), (1, .inl f)]) (st' := [.inl 1]) (m' := m2) (o := none) rfl trivial ?_
    refine ww_if (t := 92) rfl rfl (by decide) (fun (h12 : (1 : Int) ≠ 0) => ?_) (fun (h12 : ¬ ((1 : Int) ≠ 0)) => absurd (show (1 : Int) ≠ 0 from by decide) h12)
    show wW (zK sc) zM257 92 [(5, .inl 0), (4, .inl 0), (3, .inl 1), (2, .inl (m0.1 34 0 2)), (0, .inr (.inr (.inl (some (34, 0))))), (1, .inl f)] [] _ _ _
    refine ww_go 3 (pc' := 96) (L' := [(6, .inl 0), (5, .inl 0), (4, .inl 0), (3, .inl 1), (2, .inl (m0.1 34 0 2)), (0, .inr (.inr (.inl (some (34, 0))))), (1, .inl f)]) (st' := [.inl 1]) (m' := m2) (o := none) rfl trivial ?_
    refine ww_if (t := 104) rfl rfl (by decide) (fun (h13 : (1 : Int) ≠ 0) => ?_) (fun (h13 : ¬ ((1 : Int) ≠ 0)) => absurd (show (1 : Int) ≠ 0 from by decide) h13)
    show wW (zK sc) zM257 104 [(6, .inl 0), (5, .inl 0), (4, .inl 0), (3, .inl 1), (2, .inl (m0.1 34 0 2)), (0, .inr (.inr (.inl (some (34, 0))))), (1, .inl f)] [] _ _ _
    refine ww_go 3 (pc' := 109) (L' := [(6, .inl 0), (5, .inl 0), (4, .inl 0), (3, .inl 1), (2, .inl (m0.1 34 0 2)), (0, .inr (.inr (.inl (some (34, 0))))), (1, .inl f)]) (st' := []) (m' := wuI m2 34 0 1 0) (o := some ((0 < 1))) rfl (show (0 < 1) from by omega) ?_
    obtain ⟨m14, hm14⟩ : ∃ zq9 : wm, zq9 = wuI m2 34 0 1 0 := ⟨_, rfl⟩
    rw [← hm14]
    have hGm14 : zB c m14 := by rw [hm14]; exact zB_wI rfl (show 0 ≤ (0 : Int) ∧ (0 : Int) ≤ 6 from by omega) hGm2
    have hFm14 : zfr (fun k i j => (k = 38 ∧ 6 * f.toNat ≤ j ∧ j < 6 * f.toNat + 6 ∧ 0 ≤ f ∧ f ≤ 1) ∨ (k = 40 ∧ 6 * f.toNat ≤ j ∧ j < 6 * f.toNat + 6 ∧ 0 ≤ f ∧ f ≤ 1) ∨ (k = 39 ∧ 36 * f.toNat ≤ j ∧ j < 36 * f.toNat + 36 ∧ 0 ≤ f ∧ f ≤ 1) ∨ (k = 41 ∧ 576 * f.toNat ≤ j ∧ j < 576 * f.toNat + 576 ∧ 0 ≤ f ∧ f ≤ 1) ∨ (k = 37 ∧ j = f.toNat ∧ 0 ≤ f ∧ f ≤ 1) ∨ (k = 34 ∧ j = 0) ∨ (k = 34 ∧ j = 1) ∨ (k = 34 ∧ j = 2)) m0 m14 := by rw [hm14]; exact zfr_wI hFm2 (show (34 = 38 ∧ 6 * f.toNat ≤ 1 ∧ 1 < 6 * f.toNat + 6 ∧ 0 ≤ f ∧ f ≤ 1) ∨ (34 = 40 ∧ 6 * f.toNat ≤ 1 ∧ 1 < 6 * f.toNat + 6 ∧ 0 ≤ f ∧ f ≤ 1) ∨ (34 = 39 ∧ 36 * f.toNat ≤ 1 ∧ 1 < 36 * f.toNat + 36 ∧ 0 ≤ f ∧ f ≤ 1) ∨ (34 = 41 ∧ 576 * f.toNat ≤ 1 ∧ 1 < 576 * f.toNat + 576 ∧ 0 ≤ f ∧ f ≤ 1) ∨ (34 = 37 ∧ 1 = f.toNat ∧ 0 ≤ f ∧ f ≤ 1) ∨ (34 = 34 ∧ 1 = 0) ∨ (34 = 34 ∧ 1 = 1) ∨ (34 = 34 ∧ 1 = 2) from Or.inr (Or.inr (Or.inr (Or.inr (Or.inr (Or.inr (Or.inl (⟨rfl, rfl⟩))))))))
    have s15 : m14.1 34 0 1 = (0 : Int) := by rw [hm14]; exact wuI_self
    have w16 : m14.1 34 0 0 = m2.1 34 0 0 := by rw [hm14]; exact wuI_nj (by omega)
    have w17 : m14.1 34 0 2 = m2.1 34 0 2 := by rw [hm14]; exact wuI_nj (by omega)
    have w18 : m14.1 37 0 f.toNat = m2.1 37 0 f.toNat := by rw [hm14]; rfl
    refine ww_go 2 (pc' := 111) (L' := [(6, .inl 0), (5, .inl 0), (4, .inl 0), (3, .inl 1), (2, .inl (m0.1 34 0 2)), (0, .inr (.inr (.inl (some (34, 0))))), (1, .inl f)]) (st' := [.inl 1, .inr (.inr (.inl (some (34, 0))))]) (m' := m14) (o := none) rfl trivial ?_
    refine ww_if (t := 118) rfl rfl (by decide) (fun (h19 : (1 : Int) = 0) => absurd h19 (by decide)) (fun (h19 : ¬ ((1 : Int) = 0)) => ?_)
    show wW (zK sc) zM257 114 [(6, .inl 0), (5, .inl 0), (4, .inl 0), (3, .inl 1), (2, .inl (m0.1 34 0 2)), (0, .inr (.inr (.inl (some (34, 0))))), (1, .inl f)] [.inr (.inr (.inl (some (34, 0))))] _ _ _
    refine ww_go 3 (pc' := 122) (L' := [(6, .inl 0), (5, .inl 0), (4, .inl 0), (3, .inl 1), (2, .inl (m0.1 34 0 2)), (0, .inr (.inr (.inl (some (34, 0))))), (1, .inl f)]) (st' := []) (m' := wuI m14 34 0 0 1) (o := some ((0 < 1))) rfl (show (0 < 1) from by omega) ?_
    obtain ⟨m20, hm20⟩ : ∃ zq9 : wm, zq9 = wuI m14 34 0 0 1 := ⟨_, rfl⟩
    rw [← hm20]
    have hGm20 : zB c m20 := by rw [hm20]; exact zB_wI rfl (show 0 ≤ (1 : Int) ∧ (1 : Int) ≤ 2 from by omega) hGm14
    have hFm20 : zfr (fun k i j => (k = 38 ∧ 6 * f.toNat ≤ j ∧ j < 6 * f.toNat + 6 ∧ 0 ≤ f ∧ f ≤ 1) ∨ (k = 40 ∧ 6 * f.toNat ≤ j ∧ j < 6 * f.toNat + 6 ∧ 0 ≤ f ∧ f ≤ 1) ∨ (k = 39 ∧ 36 * f.toNat ≤ j ∧ j < 36 * f.toNat + 36 ∧ 0 ≤ f ∧ f ≤ 1) ∨ (k = 41 ∧ 576 * f.toNat ≤ j ∧ j < 576 * f.toNat + 576 ∧ 0 ≤ f ∧ f ≤ 1) ∨ (k = 37 ∧ j = f.toNat ∧ 0 ≤ f ∧ f ≤ 1) ∨ (k = 34 ∧ j = 0) ∨ (k = 34 ∧ j = 1) ∨ (k = 34 ∧ j = 2)) m0 m20 := by rw [hm20]; exact zfr_wI hFm14 (show (34 = 38 ∧ 6 * f.toNat ≤ 0 ∧ 0 < 6 * f.toNat + 6 ∧ 0 ≤ f ∧ f ≤ 1) ∨ (34 = 40 ∧ 6 * f.toNat ≤ 0 ∧ 0 < 6 * f.toNat + 6 ∧ 0 ≤ f ∧ f ≤ 1) ∨ (34 = 39 ∧ 36 * f.toNat ≤ 0 ∧ 0 < 36 * f.toNat + 36 ∧ 0 ≤ f ∧ f ≤ 1) ∨ (34 = 41 ∧ 576 * f.toNat ≤ 0 ∧ 0 < 576 * f.toNat + 576 ∧ 0 ≤ f ∧ f ≤ 1) ∨ (34 = 37 ∧ 0 = f.toNat ∧ 0 ≤ f ∧ f ≤ 1) ∨ (34 = 34 ∧ 0 = 0) ∨ (34 = 34 ∧ 0 = 1) ∨ (34 = 34 ∧ 0 = 2) from Or.inr (Or.inr (Or.inr (Or.inr (Or.inr (Or.inl (⟨rfl, rfl⟩)))))))
    have s21 : m20.1 34 0 0 = (1 : Int) := by rw [hm20]; exact wuI_self
    have w22 : m20.1 34 0 1 = m14.1 34 0 1 := by rw [hm20]; exact wuI_nj (by omega)
    have w23 : m20.1 34 0 2 = m14.1 34 0 2 := by rw [hm20]; exact wuI_nj (by omega)
    have w24 : m20.1 37 0 f.toNat = m14.1 37 0 f.toNat := by rw [hm20]; rfl
    refine ww_go 1 (pc' := 123) (L' := [(6, .inl 0), (5, .inl 0), (4, .inl 0), (3, .inl 1), (2, .inl (m0.1 34 0 2)), (0, .inr (.inr (.inl (some (34, 0))))), (1, .inl f)]) (st' := [.inl 0]) (m' := m20) (o := none) rfl trivial ?_
    exact ww_rI rfl rfl ⟨_, rfl, rfl, zB_mono hGm20 (by omega), hFm20, ⟨by omega, by omega, Or.inl ⟨by omega, (show f < 0 ∨ 1 < f from by omega).elim Or.inl (fun z => Or.inr (Or.inl z)), by rw [hm20, hm14, hm2]; rfl, (by rw [hm20, hm14, hm2]; exact fun q => rfl)⟩⟩⟩
  · show wW (zK sc) zM257 19 [(2, .inl (m0.1 34 0 2)), (0, .inr (.inr (.inl (some (34, 0))))), (1, .inl f)] [] _ _ _
    refine ww_go 1 (pc' := 20) (L' := [(2, .inl (m0.1 34 0 2)), (0, .inr (.inr (.inl (some (34, 0))))), (1, .inl f)]) (st' := [.inr (.inr (.inl (some (34, 0))))]) (m' := m2) (o := none) rfl trivial ?_
    refine ww_call (vs := [.inr (.inr (.inl (some (34, 0))))]) (r := []) (p := 0 < 1) rfl rfl rfl rfl (show 0 < 1 from by omega) (zs212 (c := c) (by omega) hGm2) ?_
    rintro _ _ _ ⟨r25, rfl, rfl, rfl, hr26⟩
    have zq27 : (r25 = 1 ∧ zNm (zNH m0)) ∨ (r25 = 0 ∧ ¬ zNm (zNH m0)) := by have z := hr26; rw [hm2] at z; exact z
    show wW (zK sc) zM257 23 [(2, .inl (m0.1 34 0 2)), (0, .inr (.inr (.inl (some (34, 0))))), (1, .inl f)] [.inl r25] _ _ _
    refine ww_if (t := 30) rfl rfl (by omega) (fun (h28 : r25 ≠ 0) => ?_) (fun (h28 : ¬ (r25 ≠ 0)) => ?_)
    · show wW (zK sc) zM257 30 [(2, .inl (m0.1 34 0 2)), (0, .inr (.inr (.inl (some (34, 0))))), (1, .inl f)] [] _ _ _
      refine ww_go 3 (pc' := 33) (L' := [(3, .inl 0), (2, .inl (m0.1 34 0 2)), (0, .inr (.inr (.inl (some (34, 0))))), (1, .inl f)]) (st' := [.inl 0]) (m' := m2) (o := none) rfl trivial ?_
      refine ww_if (t := 40) rfl rfl (by decide) (fun (h29 : (0 : Int) = 0) => ?_) (fun (h29 : ¬ ((0 : Int) = 0)) => absurd (show (0 : Int) = 0 from by decide) h29)
      show wW (zK sc) zM257 40 [(3, .inl 0), (2, .inl (m0.1 34 0 2)), (0, .inr (.inr (.inl (some (34, 0))))), (1, .inl f)] [] _ _ _
      refine ww_go 2 (pc' := 42) (L' := [(3, .inl 0), (2, .inl (m0.1 34 0 2)), (0, .inr (.inr (.inl (some (34, 0))))), (1, .inl f)]) (st' := [.inl f, .inr (.inr (.inl (some (34, 0))))]) (m' := m2) (o := none) rfl trivial ?_
      refine ww_call (vs := [.inr (.inr (.inl (some (34, 0)))), .inl f]) (r := []) (p := 0 < 1) rfl rfl rfl rfl (show 0 < 1 from by omega) (zs230 (c := c) (by omega) f hGm2 (by omega)) ?_
      rintro _ _ _ ⟨r30, rfl, rfl, rfl, hr31⟩
      have zq32 : zPl (fun x => zNR m0 (6 * f.toNat + x)) (m0.1 37 0 f.toNat) (zNH m0) (r30 - 6 * f) := by have z := hr31.2.2; rw [hm2] at z; exact z
      show wW (zK sc) zM257 45 [(3, .inl 0), (2, .inl (m0.1 34 0 2)), (0, .inr (.inr (.inl (some (34, 0))))), (1, .inl f)] [.inl r30] _ _ _
      refine ww_go 2 (pc' := 48) (L' := [(4, .inl r30), (3, .inl 0), (2, .inl (m0.1 34 0 2)), (0, .inr (.inr (.inl (some (34, 0))))), (1, .inl f)]) (st' := [.inl 0]) (m' := m2) (o := none) rfl trivial ?_
      refine ww_if (t := 65) rfl rfl (by decide) (fun (h33 : (0 : Int) ≠ 0) => absurd h33 (by decide)) (fun (h33 : ¬ ((0 : Int) ≠ 0)) => ?_)
      show wW (zK sc) zM257 51 [(4, .inl r30), (3, .inl 0), (2, .inl (m0.1 34 0 2)), (0, .inr (.inr (.inl (some (34, 0))))), (1, .inl f)] [] _ _ _
      refine ww_go 3 (pc' := 55) (L' := [(4, .inl r30), (3, .inl 0), (2, .inl (m0.1 34 0 2)), (0, .inr (.inr (.inl (some (34, 0))))), (1, .inl f)]) (st' := [.inl r30, .inl f, .inr (.inr (.inl (some (34, 0))))]) (m' := m2) (o := none) rfl trivial ?_
      refine ww_call (vs := [.inr (.inr (.inl (some (34, 0)))), .inl f, .inl r30]) (r := []) (p := 0 < 1) rfl rfl rfl rfl (show 0 < 1 from by omega) (zs214 (c := c) (by omega) f r30 hGm2 (by omega)) ?_
      rintro _ _ _ ⟨r34, rfl, rfl, rfl, hr35⟩
      have zq36 : (r34 = 1 ∧ r30 - 6 * f < m0.1 37 0 f.toNat ∧ zAt (fun x => zNR m0 (6 * f.toNat + x)) (m0.1 37 0 f.toNat) (zNH m0) (r30 - 6 * f)) ∨ (r34 = 0 ∧ ¬ zAt (fun x => zNR m0 (6 * f.toNat + x)) (m0.1 37 0 f.toNat) (zNH m0) (r30 - 6 * f)) := by have z := hr35; rw [hm2] at z; exact z.imp (fun z => ⟨z.1, z.2.2.1, z.2.2⟩) id
      show wW (zK sc) zM257 58 [(4, .inl r30), (3, .inl 0), (2, .inl (m0.1 34 0 2)), (0, .inr (.inr (.inl (some (34, 0))))), (1, .inl f)] [.inl r34] _ _ _
      refine ww_if (t := 65) rfl rfl (by omega) (fun (h37 : r34 = 0) => ?_) (fun (h37 : ¬ (r34 = 0)) => ?_)
      · show wW (zK sc) zM257 65 [(4, .inl r30), (3, .inl 0), (2, .inl (m0.1 34 0 2)), (0, .inr (.inr (.inl (some (34, 0))))), (1, .inl f)] [] _ _ _
        refine ww_go 3 (pc' := 69) (L' := [(5, .inl 0), (4, .inl r30), (3, .inl 0), (2, .inl (m0.1 34 0 2)), (0, .inr (.inr (.inl (some (34, 0))))), (1, .inl f)]) (st' := [.inl 0]) (m' := m2) (o := none) rfl trivial ?_
        refine ww_if (t := 92) rfl rfl (by decide) (fun (h38 : (0 : Int) ≠ 0) => absurd h38 (by decide)) (fun (h38 : ¬ ((0 : Int) ≠ 0)) => ?_)
        show wW (zK sc) zM257 72 [(5, .inl 0), (4, .inl r30), (3, .inl 0), (2, .inl (m0.1 34 0 2)), (0, .inr (.inr (.inl (some (34, 0))))), (1, .inl f)] [] _ _ _
        refine ww_go 1 (pc' := 74) (L' := [(5, .inl 0), (4, .inl r30), (3, .inl 0), (2, .inl (m0.1 34 0 2)), (0, .inr (.inr (.inl (some (34, 0))))), (1, .inl f)]) (st' := [.inl 0]) (m' := m2) (o := none) rfl trivial ?_
        refine ww_if (t := 92) rfl rfl (by decide) (fun (h39 : (0 : Int) ≠ 0) => absurd h39 (by decide)) (fun (h39 : ¬ ((0 : Int) ≠ 0)) => ?_)
        show wW (zK sc) zM257 77 [(5, .inl 0), (4, .inl r30), (3, .inl 0), (2, .inl (m0.1 34 0 2)), (0, .inr (.inr (.inl (some (34, 0))))), (1, .inl f)] [] _ _ _
        have b40 : 0 ≤ m2.1 37 0 f.toNat ∧ m2.1 37 0 f.toNat ≤ 6 := hGm2.1 37 _ rfl _ _
        refine ww_go 5 (pc' := 85) (L' := [(5, .inl 0), (4, .inl r30), (3, .inl 0), (2, .inl (m0.1 34 0 2)), (0, .inr (.inr (.inl (some (34, 0))))), (1, .inl f)]) (st' := [.inl 6, .inl (m2.1 37 0 f.toNat)]) (m' := m2) (o := some ((0 < 1) ∧ (0 < 1 ∧ 0 ≤ f ∧ f < ((2 : Nat) : Int)))) rfl (show (0 < 1) ∧ (0 < 1 ∧ 0 ≤ f ∧ f < ((2 : Nat) : Int)) from by omega) ?_
        refine ww_ic (t := 92) rfl rfl (by omega) (fun (h41 : m2.1 37 0 f.toNat ≠ 6) => ?_) (fun (h41 : ¬ (m2.1 37 0 f.toNat ≠ 6)) => ?_)
        · show wW (zK sc) zM257 92 [(5, .inl 0), (4, .inl r30), (3, .inl 0), (2, .inl (m0.1 34 0 2)), (0, .inr (.inr (.inl (some (34, 0))))), (1, .inl f)] [] _ _ _
          refine ww_go 3 (pc' := 96) (L' := [(6, .inl 0), (5, .inl 0), (4, .inl r30), (3, .inl 0), (2, .inl (m0.1 34 0 2)), (0, .inr (.inr (.inl (some (34, 0))))), (1, .inl f)]) (st' := [.inl 0]) (m' := m2) (o := none) rfl trivial ?_
          refine ww_if (t := 104) rfl rfl (by decide) (fun (h42 : (0 : Int) ≠ 0) => absurd h42 (by decide)) (fun (h42 : ¬ ((0 : Int) ≠ 0)) => ?_)
          show wW (zK sc) zM257 99 [(6, .inl 0), (5, .inl 0), (4, .inl r30), (3, .inl 0), (2, .inl (m0.1 34 0 2)), (0, .inr (.inr (.inl (some (34, 0))))), (1, .inl f)] [] _ _ _
          refine ww_go 1 (pc' := 101) (L' := [(6, .inl 0), (5, .inl 0), (4, .inl r30), (3, .inl 0), (2, .inl (m0.1 34 0 2)), (0, .inr (.inr (.inl (some (34, 0))))), (1, .inl f)]) (st' := [.inl 0]) (m' := m2) (o := none) rfl trivial ?_
          refine ww_if (t := 124) rfl rfl (by decide) (fun (h43 : (0 : Int) = 0) => ?_) (fun (h43 : ¬ ((0 : Int) = 0)) => absurd (show (0 : Int) = 0 from by decide) h43)
          show wW (zK sc) zM257 124 [(6, .inl 0), (5, .inl 0), (4, .inl r30), (3, .inl 0), (2, .inl (m0.1 34 0 2)), (0, .inr (.inr (.inl (some (34, 0))))), (1, .inl f)] [] _ _ _
          refine ww_go 3 (pc' := 129) (L' := [(6, .inl 0), (5, .inl 0), (4, .inl r30), (3, .inl 0), (2, .inl (m0.1 34 0 2)), (0, .inr (.inr (.inl (some (34, 0))))), (1, .inl f)]) (st' := []) (m' := wuI m2 34 0 0 0) (o := some ((0 < 1))) rfl (show (0 < 1) from by omega) ?_
          obtain ⟨m44, hm44⟩ : ∃ zq9 : wm, zq9 = wuI m2 34 0 0 0 := ⟨_, rfl⟩
          rw [← hm44]
          have hGm44 : zB c m44 := by rw [hm44]; exact zB_wI rfl (show 0 ≤ (0 : Int) ∧ (0 : Int) ≤ 2 from by omega) hGm2
          have hFm44 : zfr (fun k i j => (k = 38 ∧ 6 * f.toNat ≤ j ∧ j < 6 * f.toNat + 6 ∧ 0 ≤ f ∧ f ≤ 1) ∨ (k = 40 ∧ 6 * f.toNat ≤ j ∧ j < 6 * f.toNat + 6 ∧ 0 ≤ f ∧ f ≤ 1) ∨ (k = 39 ∧ 36 * f.toNat ≤ j ∧ j < 36 * f.toNat + 36 ∧ 0 ≤ f ∧ f ≤ 1) ∨ (k = 41 ∧ 576 * f.toNat ≤ j ∧ j < 576 * f.toNat + 576 ∧ 0 ≤ f ∧ f ≤ 1) ∨ (k = 37 ∧ j = f.toNat ∧ 0 ≤ f ∧ f ≤ 1) ∨ (k = 34 ∧ j = 0) ∨ (k = 34 ∧ j = 1) ∨ (k = 34 ∧ j = 2)) m0 m44 := by rw [hm44]; exact zfr_wI hFm2 (show (34 = 38 ∧ 6 * f.toNat ≤ 0 ∧ 0 < 6 * f.toNat + 6 ∧ 0 ≤ f ∧ f ≤ 1) ∨ (34 = 40 ∧ 6 * f.toNat ≤ 0 ∧ 0 < 6 * f.toNat + 6 ∧ 0 ≤ f ∧ f ≤ 1) ∨ (34 = 39 ∧ 36 * f.toNat ≤ 0 ∧ 0 < 36 * f.toNat + 36 ∧ 0 ≤ f ∧ f ≤ 1) ∨ (34 = 41 ∧ 576 * f.toNat ≤ 0 ∧ 0 < 576 * f.toNat + 576 ∧ 0 ≤ f ∧ f ≤ 1) ∨ (34 = 37 ∧ 0 = f.toNat ∧ 0 ≤ f ∧ f ≤ 1) ∨ (34 = 34 ∧ 0 = 0) ∨ (34 = 34 ∧ 0 = 1) ∨ (34 = 34 ∧ 0 = 2) from Or.inr (Or.inr (Or.inr (Or.inr (Or.inr (Or.inl (⟨rfl, rfl⟩)))))))
          have s45 : m44.1 34 0 0 = (0 : Int) := by rw [hm44]; exact wuI_self
          have w46 : m44.1 34 0 1 = m2.1 34 0 1 := by rw [hm44]; exact wuI_nj (by omega)
          have w47 : m44.1 34 0 2 = m2.1 34 0 2 := by rw [hm44]; exact wuI_nj (by omega)
          have w48 : m44.1 37 0 f.toNat = m2.1 37 0 f.toNat := by rw [hm44]; rfl
          refine ww_go 1 (pc' := 131) (L' := [(6, .inl 0), (5, .inl 0), (4, .inl r30), (3, .inl 0), (2, .inl (m0.1 34 0 2)), (0, .inr (.inr (.inl (some (34, 0))))), (1, .inl f)]) (st' := [.inl 0]) (m' := m44) (o := none) rfl trivial ?_
          refine ww_if (t := 180) rfl rfl (by decide) (fun (h49 : (0 : Int) ≠ 0) => absurd h49 (by decide)) (fun (h49 : ¬ ((0 : Int) ≠ 0)) => ?_)
          show wW (zK sc) zM257 134 [(6, .inl 0), (5, .inl 0), (4, .inl r30), (3, .inl 0), (2, .inl (m0.1 34 0 2)), (0, .inr (.inr (.inl (some (34, 0))))), (1, .inl f)] [] _ _ _
          have b50 : 0 ≤ m44.1 37 0 f.toNat ∧ m44.1 37 0 f.toNat ≤ 6 := hGm44.1 37 _ rfl _ _
          refine ww_go 9 (pc' := 147) (L' := [(7, .inl ((6 * f) + (m44.1 37 0 f.toNat))), (6, .inl 0), (5, .inl 0), (4, .inl r30), (3, .inl 0), (2, .inl (m0.1 34 0 2)), (0, .inr (.inr (.inl (some (34, 0))))), (1, .inl f)]) (st' := []) (m' := m44) (o := some ((0 < 1) ∧ (0 < 1 ∧ 0 ≤ f ∧ f < ((2 : Nat) : Int)))) rfl (show (0 < 1) ∧ (0 < 1 ∧ 0 ≤ f ∧ f < ((2 : Nat) : Int)) from by omega) ?_
          refine ww_sub (L := [(0, .inr (.inr (.inl (some (34, 0))))), (1, .inl f), (2, .inl (m0.1 34 0 2)), (4, .inl r30), (5, .inl 0), (7, .inl ((6 * f) + (m44.1 37 0 f.toNat)))]) ⟨rfl, rfl, rfl, rfl, rfl, rfl, trivial⟩ rfl rfl ?_
          exact (zs257_l147 hc f hG h0 _) (m0.1 34 0 2) r30 0 ((6 * f) + (m44.1 37 0 f.toNat)) m44 rfl (zB_mono hGm44 (by omega)) hFm44 (by omega) (by exact zq32) (by exact zq27.elim (fun z => z.2) (fun z => absurd z.1 (by omega))) (by exact zq36.elim (fun z => absurd z.1 (by omega)) (fun z => z.2)) (by exact fun q q1 q2 q3 => (by rw [if_neg (by omega), hm44, hm2]; rfl))
        · show wW (zK sc) zM257 88 [(5, .inl 0), (4, .inl r30), (3, .inl 0), (2, .inl (m0.1 34 0 2)), (0, .inr (.inr (.inl (some (34, 0))))), (1, .inl f)] [] _ _ _
          refine ww_go 4 (pc' := 96) (L' := [(6, .inl 1), (5, .inl 0), (4, .inl r30), (3, .inl 0), (2, .inl (m0.1 34 0 2)), (0, .inr (.inr (.inl (some (34, 0))))), (1, .inl f)]) (st' := [.inl 0]) (m' := m2) (o := none) rfl trivial ?_
          refine ww_if (t := 104) rfl rfl (by decide) (fun (h51 : (0 : Int) ≠ 0) => absurd h51 (by decide)) (fun (h51 : ¬ ((0 : Int) ≠ 0)) => ?_)
          show wW (zK sc) zM257 99 [(6, .inl 1), (5, .inl 0), (4, .inl r30), (3, .inl 0), (2, .inl (m0.1 34 0 2)), (0, .inr (.inr (.inl (some (34, 0))))), (1, .inl f)] [] _ _ _
          refine ww_go 1 (pc' := 101) (L' := [(6, .inl 1), (5, .inl 0), (4, .inl r30), (3, .inl 0), (2, .inl (m0.1 34 0 2)), (0, .inr (.inr (.inl (some (34, 0))))), (1, .inl f)]) (st' := [.inl 1]) (m' := m2) (o := none) rfl trivial ?_
          refine ww_if (t := 124) rfl rfl (by decide) (fun (h52 : (1 : Int) = 0) => absurd h52 (by decide)) (fun (h52 : ¬ ((1 : Int) = 0)) => ?_)
          show wW (zK sc) zM257 104 [(6, .inl 1), (5, .inl 0), (4, .inl r30), (3, .inl 0), (2, .inl (m0.1 34 0 2)), (0, .inr (.inr (.inl (some (34, 0))))), (1, .inl f)] [] _ _ _
          refine ww_go 3 (pc' := 109) (L' := [(6, .inl 1), (5, .inl 0), (4, .inl r30), (3, .inl 0), (2, .inl (m0.1 34 0 2)), (0, .inr (.inr (.inl (some (34, 0))))), (1, .inl f)]) (st' := []) (m' := wuI m2 34 0 1 0) (o := some ((0 < 1))) rfl (show (0 < 1) from by omega) ?_
          obtain ⟨m53, hm53⟩ : ∃ zq9 : wm, zq9 = wuI m2 34 0 1 0 := ⟨_, rfl⟩
          rw [← hm53]
          have hGm53 : zB c m53 := by rw [hm53]; exact zB_wI rfl (show 0 ≤ (0 : Int) ∧ (0 : Int) ≤ 6 from by omega) hGm2
          have hFm53 : zfr (fun k i j => (k = 38 ∧ 6 * f.toNat ≤ j ∧ j < 6 * f.toNat + 6 ∧ 0 ≤ f ∧ f ≤ 1) ∨ (k = 40 ∧ 6 * f.toNat ≤ j ∧ j < 6 * f.toNat + 6 ∧ 0 ≤ f ∧ f ≤ 1) ∨ (k = 39 ∧ 36 * f.toNat ≤ j ∧ j < 36 * f.toNat + 36 ∧ 0 ≤ f ∧ f ≤ 1) ∨ (k = 41 ∧ 576 * f.toNat ≤ j ∧ j < 576 * f.toNat + 576 ∧ 0 ≤ f ∧ f ≤ 1) ∨ (k = 37 ∧ j = f.toNat ∧ 0 ≤ f ∧ f ≤ 1) ∨ (k = 34 ∧ j = 0) ∨ (k = 34 ∧ j = 1) ∨ (k = 34 ∧ j = 2)) m0 m53 := by rw [hm53]; exact zfr_wI hFm2 (show (34 = 38 ∧ 6 * f.toNat ≤ 1 ∧ 1 < 6 * f.toNat + 6 ∧ 0 ≤ f ∧ f ≤ 1) ∨ (34 = 40 ∧ 6 * f.toNat ≤ 1 ∧ 1 < 6 * f.toNat + 6 ∧ 0 ≤ f ∧ f ≤ 1) ∨ (34 = 39 ∧ 36 * f.toNat ≤ 1 ∧ 1 < 36 * f.toNat + 36 ∧ 0 ≤ f ∧ f ≤ 1) ∨ (34 = 41 ∧ 576 * f.toNat ≤ 1 ∧ 1 < 576 * f.toNat + 576 ∧ 0 ≤ f ∧ f ≤ 1) ∨ (34 = 37 ∧ 1 = f.toNat ∧ 0 ≤ f ∧ f ≤ 1) ∨ (34 = 34 ∧ 1 = 0) ∨ (34 = 34 ∧ 1 = 1) ∨ (34 = 34 ∧ 1 = 2) from Or.inr (Or.inr (Or.inr (Or.inr (Or.inr (Or.inr (Or.inl (⟨rfl, rfl⟩))))))))
          have s54 : m53.1 34 0 1 = (0 : Int) := by rw [hm53]; exact wuI_self
          have w55 : m53.1 34 0 0 = m2.1 34 0 0 := by rw [hm53]; exact wuI_nj (by omega)
          have w56 : m53.1 34 0 2 = m2.1 34 0 2 := by rw [hm53]; exact wuI_nj (by omega)
          have w57 : m53.1 37 0 f.toNat = m2.1 37 0 f.toNat := by rw [hm53]; rfl
          refine ww_go 2 (pc' := 111) (L' := [(6, .inl 1), (5, .inl 0), (4, .inl r30), (3, .inl 0), (2, .inl (m0.1 34 0 2)), (0, .inr (.inr (.inl (some (34, 0))))), (1, .inl f)]) (st' := [.inl 0, .inr (.inr (.inl (some (34, 0))))]) (m' := m53) (o := none) rfl trivial ?_
          refine ww_if (t := 118) rfl rfl (by decide) (fun (h58 : (0 : Int) = 0) => ?_) (fun (h58 : ¬ ((0 : Int) = 0)) => absurd (show (0 : Int) = 0 from by decide) h58)
          show wW (zK sc) zM257 118 [(6, .inl 1), (5, .inl 0), (4, .inl r30), (3, .inl 0), (2, .inl (m0.1 34 0 2)), (0, .inr (.inr (.inl (some (34, 0))))), (1, .inl f)] [.inr (.inr (.inl (some (34, 0))))] _ _ _
          refine ww_go 2 (pc' := 122) (L' := [(6, .inl 1), (5, .inl 0), (4, .inl r30), (3, .inl 0), (2, .inl (m0.1 34 0 2)), (0, .inr (.inr (.inl (some (34, 0))))), (1, .inl f)]) (st' := []) (m' := wuI m53 34 0 0 2) (o := some ((0 < 1))) rfl (show (0 < 1) from by omega) ?_
          obtain ⟨m59, hm59⟩ : ∃ zq9 : wm, zq9 = wuI m53 34 0 0 2 := ⟨_, rfl⟩
          rw [← hm59]
          have hGm59 : zB c m59 := by rw [hm59]; exact zB_wI rfl (show 0 ≤ (2 : Int) ∧ (2 : Int) ≤ 2 from by omega) hGm53
          have hFm59 : zfr (fun k i j => (k = 38 ∧ 6 * f.toNat ≤ j ∧ j < 6 * f.toNat + 6 ∧ 0 ≤ f ∧ f ≤ 1) ∨ (k = 40 ∧ 6 * f.toNat ≤ j ∧ j < 6 * f.toNat + 6 ∧ 0 ≤ f ∧ f ≤ 1) ∨ (k = 39 ∧ 36 * f.toNat ≤ j ∧ j < 36 * f.toNat + 36 ∧ 0 ≤ f ∧ f ≤ 1) ∨ (k = 41 ∧ 576 * f.toNat ≤ j ∧ j < 576 * f.toNat + 576 ∧ 0 ≤ f ∧ f ≤ 1) ∨ (k = 37 ∧ j = f.toNat ∧ 0 ≤ f ∧ f ≤ 1) ∨ (k = 34 ∧ j = 0) ∨ (k = 34 ∧ j = 1) ∨ (k = 34 ∧ j = 2)) m0 m59 := by rw [hm59]; exact zfr_wI hFm53 (show (34 = 38 ∧ 6 * f.toNat ≤ 0 ∧ 0 < 6 * f.toNat + 6 ∧ 0 ≤ f ∧ f ≤ 1) ∨ (34 = 40 ∧ 6 * f.toNat ≤ 0 ∧ 0 < 6 * f.toNat + 6 ∧ 0 ≤ f ∧ f ≤ 1) ∨ (34 = 39 ∧ 36 * f.toNat ≤ 0 ∧ 0 < 36 * f.toNat + 36 ∧ 0 ≤ f ∧ f ≤ 1) ∨ (34 = 41 ∧ 576 * f.toNat ≤ 0 ∧ 0 < 576 * f.toNat + 576 ∧ 0 ≤ f ∧ f ≤ 1) ∨ (34 = 37 ∧ 0 = f.toNat ∧ 0 ≤ f ∧ f ≤ 1) ∨ (34 = 34 ∧ 0 = 0) ∨ (34 = 34 ∧ 0 = 1) ∨ (34 = 34 ∧ 0 = 2) from Or.inr (Or.inr (Or.inr (Or.inr (Or.inr (Or.inl (⟨rfl, rfl⟩)))))))
          have s60 : m59.1 34 0 0 = (2 : Int) := by rw [hm59]; exact wuI_self
          have w61 : m59.1 34 0 1 = m53.1 34 0 1 := by rw [hm59]; exact wuI_nj (by omega)
          have w62 : m59.1 34 0 2 = m53.1 34 0 2 := by rw [hm59]; exact wuI_nj (by omega)
          have w63 : m59.1 37 0 f.toNat = m53.1 37 0 f.toNat := by rw [hm59]; rfl
          refine ww_go 1 (pc' := 123) (L' := [(6, .inl 1), (5, .inl 0), (4, .inl r30), (3, .inl 0), (2, .inl (m0.1 34 0 2)), (0, .inr (.inr (.inl (some (34, 0))))), (1, .inl f)]) (st' := [.inl 0]) (m' := m59) (o := none) rfl trivial ?_
          exact ww_rI rfl rfl ⟨_, rfl, rfl, zB_mono hGm59 (by omega), hFm59, ⟨by omega, by omega, Or.inr ⟨by omega, by omega, zq27.elim (fun z => z.2) (fun z => absurd z.1 (by omega)), Or.inl ⟨by omega, zPut_f zq32 (by omega) (zq36.elim (fun z => absurd z.1 (by omega)) (fun z => z.2)) (by rw [hm59, hm53, hm2]; exact fun q => rfl) (by omega)⟩⟩⟩⟩
      · show wW (zK sc) zM257 61 [(4, .inl r30), (3, .inl 0), (2, .inl (m0.1 34 0 2)), (0, .inr (.inr (.inl (some (34, 0))))), (1, .inl f)] [] _ _ _
        refine ww_go 4 (pc' := 69) (L' := [(5, .inl 1), (4, .inl r30), (3, .inl 0), (2, .inl (m0.1 34 0 2)), (0, .inr (.inr (.inl (some (34, 0))))), (1, .inl f)]) (st' := [.inl 0]) (m' := m2) (o := none) rfl trivial ?_
        refine ww_if (t := 92) rfl rfl (by decide) (fun (h64 : (0 : Int) ≠ 0) => absurd h64 (by decide)) (fun (h64 : ¬ ((0 : Int) ≠ 0)) => ?_)
        show wW (zK sc) zM257 72 [(5, .inl 1), (4, .inl r30), (3, .inl 0), (2, .inl (m0.1 34 0 2)), (0, .inr (.inr (.inl (some (34, 0))))), (1, .inl f)] [] _ _ _
        refine ww_go 1 (pc' := 74) (L' := [(5, .inl 1), (4, .inl r30), (3, .inl 0), (2, .inl (m0.1 34 0 2)), (0, .inr (.inr (.inl (some (34, 0))))), (1, .inl f)]) (st' := [.inl 1]) (m' := m2) (o := none) rfl trivial ?_
        refine ww_if (t := 92) rfl rfl (by decide) (fun (h65 : (1 : Int) ≠ 0) => ?_) (fun (h65 : ¬ ((1 : Int) ≠ 0)) => absurd (show (1 : Int) ≠ 0 from by decide) h65)
        show wW (zK sc) zM257 92 [(5, .inl 1), (4, .inl r30), (3, .inl 0), (2, .inl (m0.1 34 0 2)), (0, .inr (.inr (.inl (some (34, 0))))), (1, .inl f)] [] _ _ _
        refine ww_go 3 (pc' := 96) (L' := [(6, .inl 0), (5, .inl 1), (4, .inl r30), (3, .inl 0), (2, .inl (m0.1 34 0 2)), (0, .inr (.inr (.inl (some (34, 0))))), (1, .inl f)]) (st' := [.inl 0]) (m' := m2) (o := none) rfl trivial ?_
        refine ww_if (t := 104) rfl rfl (by decide) (fun (h66 : (0 : Int) ≠ 0) => absurd h66 (by decide)) (fun (h66 : ¬ ((0 : Int) ≠ 0)) => ?_)
        show wW (zK sc) zM257 99 [(6, .inl 0), (5, .inl 1), (4, .inl r30), (3, .inl 0), (2, .inl (m0.1 34 0 2)), (0, .inr (.inr (.inl (some (34, 0))))), (1, .inl f)] [] _ _ _
        refine ww_go 1 (pc' := 101) (L' := [(6, .inl 0), (5, .inl 1), (4, .inl r30), (3, .inl 0), (2, .inl (m0.1 34 0 2)), (0, .inr (.inr (.inl (some (34, 0))))), (1, .inl f)]) (st' := [.inl 0]) (m' := m2) (o := none) rfl trivial ?_
        refine ww_if (t := 124) rfl rfl (by decide) (fun (h67 : (0 : Int) = 0) => ?_) (fun (h67 : ¬ ((0 : Int) = 0)) => absurd (show (0 : Int) = 0 from by decide) h67)
        show wW (zK sc) zM257 124 [(6, .inl 0), (5, .inl 1), (4, .inl r30), (3, .inl 0), (2, .inl (m0.1 34 0 2)), (0, .inr (.inr (.inl (some (34, 0))))), (1, .inl f)] [] _ _ _
        refine ww_go 3 (pc' := 129) (L' := [(6, .inl 0), (5, .inl 1), (4, .inl r30), (3, .inl 0), (2, .inl (m0.1 34 0 2)), (0, .inr (.inr (.inl (some (34, 0))))), (1, .inl f)]) (st' := []) (m' := wuI m2 34 0 0 0) (o := some ((0 < 1))) rfl (show (0 < 1) from by omega) ?_
        obtain ⟨m68, hm68⟩ : ∃ zq9 : wm, zq9 = wuI m2 34 0 0 0 := ⟨_, rfl⟩
        rw [← hm68]
        have hGm68 : zB c m68 := by rw [hm68]; exact zB_wI rfl (show 0 ≤ (0 : Int) ∧ (0 : Int) ≤ 2 from by omega) hGm2
        have hFm68 : zfr (fun k i j => (k = 38 ∧ 6 * f.toNat ≤ j ∧ j < 6 * f.toNat + 6 ∧ 0 ≤ f ∧ f ≤ 1) ∨ (k = 40 ∧ 6 * f.toNat ≤ j ∧ j < 6 * f.toNat + 6 ∧ 0 ≤ f ∧ f ≤ 1) ∨ (k = 39 ∧ 36 * f.toNat ≤ j ∧ j < 36 * f.toNat + 36 ∧ 0 ≤ f ∧ f ≤ 1) ∨ (k = 41 ∧ 576 * f.toNat ≤ j ∧ j < 576 * f.toNat + 576 ∧ 0 ≤ f ∧ f ≤ 1) ∨ (k = 37 ∧ j = f.toNat ∧ 0 ≤ f ∧ f ≤ 1) ∨ (k = 34 ∧ j = 0) ∨ (k = 34 ∧ j = 1) ∨ (k = 34 ∧ j = 2)) m0 m68 := by rw [hm68]; exact zfr_wI hFm2 (show (34 = 38 ∧ 6 * f.toNat ≤ 0 ∧ 0 < 6 * f.toNat + 6 ∧ 0 ≤ f ∧ f ≤ 1) ∨ (34 = 40 ∧ 6 * f.toNat ≤ 0 ∧ 0 < 6 * f.toNat + 6 ∧ 0 ≤ f ∧ f ≤ 1) ∨ (34 = 39 ∧ 36 * f.toNat ≤ 0 ∧ 0 < 36 * f.toNat + 36 ∧ 0 ≤ f ∧ f ≤ 1) ∨ (34 = 41 ∧ 576 * f.toNat ≤ 0 ∧ 0 < 576 * f.toNat + 576 ∧ 0 ≤ f ∧ f ≤ 1) ∨ (34 = 37 ∧ 0 = f.toNat ∧ 0 ≤ f ∧ f ≤ 1) ∨ (34 = 34 ∧ 0 = 0) ∨ (34 = 34 ∧ 0 = 1) ∨ (34 = 34 ∧ 0 = 2) from Or.inr (Or.inr (Or.inr (Or.inr (Or.inr (Or.inl (⟨rfl, rfl⟩)))))))
        have s69 : m68.1 34 0 0 = (0 : Int) := by rw [hm68]; exact wuI_self
        have w70 : m68.1 34 0 1 = m2.1 34 0 1 := by rw [hm68]; exact wuI_nj (by omega)
        have w71 : m68.1 34 0 2 = m2.1 34 0 2 := by rw [hm68]; exact wuI_nj (by omega)
        have w72 : m68.1 37 0 f.toNat = m2.1 37 0 f.toNat := by rw [hm68]; rfl
        refine ww_go 1 (pc' := 131) (L' := [(6, .inl 0), (5, .inl 1), (4, .inl r30), (3, .inl 0), (2, .inl (m0.1 34 0 2)), (0, .inr (.inr (.inl (some (34, 0))))), (1, .inl f)]) (st' := [.inl 1]) (m' := m68) (o := none) rfl trivial ?_
        refine ww_if (t := 180) rfl rfl (by decide) (fun (h73 : (1 : Int) ≠ 0) => ?_) (fun (h73 : ¬ ((1 : Int) ≠ 0)) => absurd (show (1 : Int) ≠ 0 from by decide) h73)
        show wW (zK sc) zM257 180 [(6, .inl 0), (5, .inl 1), (4, .inl r30), (3, .inl 0), (2, .inl (m0.1 34 0 2)), (0, .inr (.inr (.inl (some (34, 0))))), (1, .inl f)] [] _ _ _
        have b74 : 0 ≤ m68.1 34 0 1 ∧ m68.1 34 0 1 ≤ 6 := hGm68.1 34 _ rfl _ _
        refine ww_go 6 (pc' := 191) (L' := [(6, .inl 0), (5, .inl 1), (4, .inl r30), (3, .inl 0), (2, .inl (m0.1 34 0 2)), (0, .inr (.inr (.inl (some (34, 0))))), (1, .inl f)]) (st' := []) (m' := wuI m68 38 0 r30.toNat (m68.1 34 0 1)) (o := some ((0 < 1) ∧ (0 < 1) ∧ (0 < 1 ∧ 0 ≤ r30 ∧ r30 < ((12 : Nat) : Int)))) rfl (show (0 < 1) ∧ (0 < 1) ∧ (0 < 1 ∧ 0 ≤ r30 ∧ r30 < ((12 : Nat) : Int)) from by omega) ?_
        obtain ⟨m75, hm75⟩ : ∃ zq9 : wm, zq9 = wuI m68 38 0 r30.toNat (m68.1 34 0 1) := ⟨_, rfl⟩
        rw [← hm75]
        have hGm75 : zB c m75 := by rw [hm75]; exact zB_wI rfl (show 0 ≤ m68.1 34 0 1 ∧ m68.1 34 0 1 ≤ 6 from by omega) hGm68
        have hFm75 : zfr (fun k i j => (k = 38 ∧ 6 * f.toNat ≤ j ∧ j < 6 * f.toNat + 6 ∧ 0 ≤ f ∧ f ≤ 1) ∨ (k = 40 ∧ 6 * f.toNat ≤ j ∧ j < 6 * f.toNat + 6 ∧ 0 ≤ f ∧ f ≤ 1) ∨ (k = 39 ∧ 36 * f.toNat ≤ j ∧ j < 36 * f.toNat + 36 ∧ 0 ≤ f ∧ f ≤ 1) ∨ (k = 41 ∧ 576 * f.toNat ≤ j ∧ j < 576 * f.toNat + 576 ∧ 0 ≤ f ∧ f ≤ 1) ∨ (k = 37 ∧ j = f.toNat ∧ 0 ≤ f ∧ f ≤ 1) ∨ (k = 34 ∧ j = 0) ∨ (k = 34 ∧ j = 1) ∨ (k = 34 ∧ j = 2)) m0 m75 := by rw [hm75]; exact zfr_wI hFm68 (show (38 = 38 ∧ 6 * f.toNat ≤ r30.toNat ∧ r30.toNat < 6 * f.toNat + 6 ∧ 0 ≤ f ∧ f ≤ 1) ∨ (38 = 40 ∧ 6 * f.toNat ≤ r30.toNat ∧ r30.toNat < 6 * f.toNat + 6 ∧ 0 ≤ f ∧ f ≤ 1) ∨ (38 = 39 ∧ 36 * f.toNat ≤ r30.toNat ∧ r30.toNat < 36 * f.toNat + 36 ∧ 0 ≤ f ∧ f ≤ 1) ∨ (38 = 41 ∧ 576 * f.toNat ≤ r30.toNat ∧ r30.toNat < 576 * f.toNat + 576 ∧ 0 ≤ f ∧ f ≤ 1) ∨ (38 = 37 ∧ r30.toNat = f.toNat ∧ 0 ≤ f ∧ f ≤ 1) ∨ (38 = 34 ∧ r30.toNat = 0) ∨ (38 = 34 ∧ r30.toNat = 1) ∨ (38 = 34 ∧ r30.toNat = 2) from Or.inl ((show (38 = 38 ∧ 6 * f.toNat ≤ r30.toNat ∧ r30.toNat < 6 * f.toNat + 6 ∧ 0 ≤ f ∧ f ≤ 1) from by omega)))
        have s76 : m75.1 38 0 r30.toNat = m68.1 34 0 1 := by rw [hm75]; exact wuI_self
        have w77 : m75.1 34 0 0 = m68.1 34 0 0 := by rw [hm75]; rfl
        have w78 : m75.1 34 0 1 = m68.1 34 0 1 := by rw [hm75]; rfl
        have w79 : m75.1 34 0 2 = m68.1 34 0 2 := by rw [hm75]; rfl
        have w80 : m75.1 37 0 f.toNat = m68.1 37 0 f.toNat := by rw [hm75]; rfl
        refine ww_go 2 (pc' := 194) (L' := [(7, .inl 0), (6, .inl 0), (5, .inl 1), (4, .inl r30), (3, .inl 0), (2, .inl (m0.1 34 0 2)), (0, .inr (.inr (.inl (some (34, 0))))), (1, .inl f)]) (st' := []) (m' := m75) (o := none) rfl trivial ?_
        refine ww_sub (L := [(0, .inr (.inr (.inl (some (34, 0))))), (1, .inl f), (2, .inl (m0.1 34 0 2)), (4, .inl r30), (5, .inl 1), (7, .inl 0)]) ⟨rfl, rfl, rfl, rfl, rfl, rfl, trivial⟩ rfl rfl ?_
        have zS81 : zSh m0 m2 f.toNat r30 (m0.1 37 0 f.toNat) 1 := by rw [hm2]; exact zSh_w zSh_1 hG (by omega) (by omega)
        have zS82 : zSh m0 m68 f.toNat r30 (m0.1 37 0 f.toNat) 1 := by rw [hm68]; exact zSh_w zS81 hGm2 (by omega) (by omega)
        have zS83 : zSh m0 m75 f.toNat r30 (m0.1 37 0 f.toNat) 1 := by rw [hm75]; exact zSh_w zS82 hGm68 (by omega) (by omega)
        exact (zs257_l194 hc f hG h0 _) (m0.1 34 0 2) r30 1 0 m75 rfl (zB_mono hGm75 (by omega)) hFm75 (by omega) (by exact zq32) (by exact zq27.elim (fun z => z.2) (fun z => absurd z.1 (by omega))) (by exact Or.inl ⟨zq36.elim (fun z => z.2.2) (fun z => absurd z.1 (by omega)), by omega, by omega⟩) (by exact zS83) (by omega) (by exact fun j hj => absurd hj (by omega))
    · show wW (zK sc) zM257 26 [(2, .inl (m0.1 34 0 2)), (0, .inr (.inr (.inl (some (34, 0))))), (1, .inl f)] [] _ _ _
      refine ww_go 4 (pc' := 33) (L' := [(3, .inl 1), (2, .inl (m0.1 34 0 2)), (0, .inr (.inr (.inl (some (34, 0))))), (1, .inl f)]) (st' := [.inl 1]) (m' := m2) (o := none) rfl trivial ?_
      refine ww_if (t := 40) rfl rfl (by decide) (fun (h84 : (1 : Int) = 0) => absurd h84 (by decide)) (fun (h84 : ¬ ((1 : Int) = 0)) => ?_)
      show wW (zK sc) zM257 36 [(3, .inl 1), (2, .inl (m0.1 34 0 2)), (0, .inr (.inr (.inl (some (34, 0))))), (1, .inl f)] [] _ _ _
      refine ww_go 4 (pc' := 48) (L' := [(4, .inl 0), (3, .inl 1), (2, .inl (m0.1 34 0 2)), (0, .inr (.inr (.inl (some (34, 0))))), (1, .inl f)]) (st' := [.inl 1]) (m' := m2) (o := none) rfl trivial ?_
      refine ww_if (t := 65) rfl rfl (by decide) (fun (h85 : (1 : Int) ≠ 0) => ?_) (fun (h85 : ¬ ((1 : Int) ≠ 0)) => absurd (show (1 : Int) ≠ 0 from by decide) h85)
      show wW (zK sc) zM257 65 [(4, .inl 0), (3, .inl 1), (2, .inl (m0.1 34 0 2)), (0, .inr (.inr (.inl (some (34, 0))))), (1, .inl f)] [] _ _ _
      refine ww_go 3 (pc' := 69) (L' := [(5, .inl 0), (4, .inl 0), (3, .inl 1), (2, .inl (m0.1 34 0 2)), (0, .inr (.inr (.inl (some (34, 0))))), (1, .inl f)]) (st' := [.inl 1]) (m' := m2) (o := none) rfl trivial ?_
      refine ww_if (t := 92) rfl rfl (by decide) (fun (h86 : (1 : Int) ≠ 0) => ?_) (fun (h86 : ¬ ((1 : Int) ≠ 0)) => absurd (show (1 : Int) ≠ 0 from by decide) h86)
      show wW (zK sc) zM257 92 [(5, .inl 0), (4, .inl 0), (3, .inl 1), (2, .inl (m0.1 34 0 2)), (0, .inr (.inr (.inl (some (34, 0))))), (1, .inl f)] [] _ _ _
      refine ww_go 3 (pc' := 96) (L' := [(6, .inl 0), (5, .inl 0), (4, .inl 0), (3, .inl 1), (2, .inl (m0.1 34 0 2)), (0, .inr (.inr (.inl (some (34, 0))))), (1, .inl f)]) (st' := [.inl 1]) (m' := m2) (o := none) rfl trivial ?_
      refine ww_if (t := 104) rfl rfl (by decide) (fun (h87 : (1 : Int) ≠ 0) => ?_) (fun (h87 : ¬ ((1 : Int) ≠ 0)) => absurd (show (1 : Int) ≠ 0 from by decide) h87)
      show wW (zK sc) zM257 104 [(6, .inl 0), (5, .inl 0), (4, .inl 0), (3, .inl 1), (2, .inl (m0.1 34 0 2)), (0, .inr (.inr (.inl (some (34, 0))))), (1, .inl f)] [] _ _ _
      refine ww_go 3 (pc' := 109) (L' := [(6, .inl 0), (5, .inl 0), (4, .inl 0), (3, .inl 1), (2, .inl (m0.1 34 0 2)), (0, .inr (.inr (.inl (some (34, 0))))), (1, .inl f)]) (st' := []) (m' := wuI m2 34 0 1 0) (o := some ((0 < 1))) rfl (show (0 < 1) from by omega) ?_
      obtain ⟨m88, hm88⟩ : ∃ zq9 : wm, zq9 = wuI m2 34 0 1 0 := ⟨_, rfl⟩
      rw [← hm88]
      have hGm88 : zB c m88 := by rw [hm88]; exact zB_wI rfl (show 0 ≤ (0 : Int) ∧ (0 : Int) ≤ 6 from by omega) hGm2
      have hFm88 : zfr (fun k i j => (k = 38 ∧ 6 * f.toNat ≤ j ∧ j < 6 * f.toNat + 6 ∧ 0 ≤ f ∧ f ≤ 1) ∨ (k = 40 ∧ 6 * f.toNat ≤ j ∧ j < 6 * f.toNat + 6 ∧ 0 ≤ f ∧ f ≤ 1) ∨ (k = 39 ∧ 36 * f.toNat ≤ j ∧ j < 36 * f.toNat + 36 ∧ 0 ≤ f ∧ f ≤ 1) ∨ (k = 41 ∧ 576 * f.toNat ≤ j ∧ j < 576 * f.toNat + 576 ∧ 0 ≤ f ∧ f ≤ 1) ∨ (k = 37 ∧ j = f.toNat ∧ 0 ≤ f ∧ f ≤ 1) ∨ (k = 34 ∧ j = 0) ∨ (k = 34 ∧ j = 1) ∨ (k = 34 ∧ j = 2)) m0 m88 := by rw [hm88]; exact zfr_wI hFm2 (show (34 = 38 ∧ 6 * f.toNat ≤ 1 ∧ 1 < 6 * f.toNat + 6 ∧ 0 ≤ f ∧ f ≤ 1) ∨ (34 = 40 ∧ 6 * f.toNat ≤ 1 ∧ 1 < 6 * f.toNat + 6 ∧ 0 ≤ f ∧ f ≤ 1) ∨ (34 = 39 ∧ 36 * f.toNat ≤ 1 ∧ 1 < 36 * f.toNat + 36 ∧ 0 ≤ f ∧ f ≤ 1) ∨ (34 = 41 ∧ 576 * f.toNat ≤ 1 ∧ 1 < 576 * f.toNat + 576 ∧ 0 ≤ f ∧ f ≤ 1) ∨ (34 = 37 ∧ 1 = f.toNat ∧ 0 ≤ f ∧ f ≤ 1) ∨ (34 = 34 ∧ 1 = 0) ∨ (34 = 34 ∧ 1 = 1) ∨ (34 = 34 ∧ 1 = 2) from Or.inr (Or.inr (Or.inr (Or.inr (Or.inr (Or.inr (Or.inl (⟨rfl, rfl⟩))))))))
      have s89 : m88.1 34 0 1 = (0 : Int) := by rw [hm88]; exact wuI_self
      have w90 : m88.1 34 0 0 = m2.1 34 0 0 := by rw [hm88]; exact wuI_nj (by omega)
      have w91 : m88.1 34 0 2 = m2.1 34 0 2 := by rw [hm88]; exact wuI_nj (by omega)
      have w92 : m88.1 37 0 f.toNat = m2.1 37 0 f.toNat := by rw [hm88]; rfl
      refine ww_go 2 (pc' := 111) (L' := [(6, .inl 0), (5, .inl 0), (4, .inl 0), (3, .inl 1), (2, .inl (m0.1 34 0 2)), (0, .inr (.inr (.inl (some (34, 0))))), (1, .inl f)]) (st' := [.inl 1, .inr (.inr (.inl (some (34, 0))))]) (m' := m88) (o := none) rfl trivial ?_
      refine ww_if (t := 118) rfl rfl (by decide) (fun (h93 : (1 : Int) = 0) => absurd h93 (by decide)) (fun (h93 : ¬ ((1 : Int) = 0)) => ?_)
      show wW (zK sc) zM257 114 [(6, .inl 0), (5, .inl 0), (4, .inl 0), (3, .inl 1), (2, .inl (m0.1 34 0 2)), (0, .inr (.inr (.inl (some (34, 0))))), (1, .inl f)] [.inr (.inr (.inl (some (34, 0))))] _ _ _
      refine ww_go 3 (pc' := 122) (L' := [(6, .inl 0), (5, .inl 0), (4, .inl 0), (3, .inl 1), (2, .inl (m0.1 34 0 2)), (0, .inr (.inr (.inl (some (34, 0))))), (1, .inl f)]) (st' := []) (m' := wuI m88 34 0 0 1) (o := some ((0 < 1))) rfl (show (0 < 1) from by omega) ?_
      obtain ⟨m94, hm94⟩ : ∃ zq9 : wm, zq9 = wuI m88 34 0 0 1 := ⟨_, rfl⟩
      rw [← hm94]
      have hGm94 : zB c m94 := by rw [hm94]; exact zB_wI rfl (show 0 ≤ (1 : Int) ∧ (1 : Int) ≤ 2 from by omega) hGm88
      have hFm94 : zfr (fun k i j => (k = 38 ∧ 6 * f.toNat ≤ j ∧ j < 6 * f.toNat + 6 ∧ 0 ≤ f ∧ f ≤ 1) ∨ (k = 40 ∧ 6 * f.toNat ≤ j ∧ j < 6 * f.toNat + 6 ∧ 0 ≤ f ∧ f ≤ 1) ∨ (k = 39 ∧ 36 * f.toNat ≤ j ∧ j < 36 * f.toNat + 36 ∧ 0 ≤ f ∧ f ≤ 1) ∨ (k = 41 ∧ 576 * f.toNat ≤ j ∧ j < 576 * f.toNat + 576 ∧ 0 ≤ f ∧ f ≤ 1) ∨ (k = 37 ∧ j = f.toNat ∧ 0 ≤ f ∧ f ≤ 1) ∨ (k = 34 ∧ j = 0) ∨ (k = 34 ∧ j = 1) ∨ (k = 34 ∧ j = 2)) m0 m94 := by rw [hm94]; exact zfr_wI hFm88 (show (34 = 38 ∧ 6 * f.toNat ≤ 0 ∧ 0 < 6 * f.toNat + 6 ∧ 0 ≤ f ∧ f ≤ 1) ∨ (34 = 40 ∧ 6 * f.toNat ≤ 0 ∧ 0 < 6 * f.toNat + 6 ∧ 0 ≤ f ∧ f ≤ 1) ∨ (34 = 39 ∧ 36 * f.toNat ≤ 0 ∧ 0 < 36 * f.toNat + 36 ∧ 0 ≤ f ∧ f ≤ 1) ∨ (34 = 41 ∧ 576 * f.toNat ≤ 0 ∧ 0 < 576 * f.toNat + 576 ∧ 0 ≤ f ∧ f ≤ 1) ∨ (34 = 37 ∧ 0 = f.toNat ∧ 0 ≤ f ∧ f ≤ 1) ∨ (34 = 34 ∧ 0 = 0) ∨ (34 = 34 ∧ 0 = 1) ∨ (34 = 34 ∧ 0 = 2) from Or.inr (Or.inr (Or.inr (Or.inr (Or.inr (Or.inl (⟨rfl, rfl⟩)))))))
      have s95 : m94.1 34 0 0 = (1 : Int) := by rw [hm94]; exact wuI_self
      have w96 : m94.1 34 0 1 = m88.1 34 0 1 := by rw [hm94]; exact wuI_nj (by omega)
      have w97 : m94.1 34 0 2 = m88.1 34 0 2 := by rw [hm94]; exact wuI_nj (by omega)
      have w98 : m94.1 37 0 f.toNat = m88.1 37 0 f.toNat := by rw [hm94]; rfl
      refine ww_go 1 (pc' := 123) (L' := [(6, .inl 0), (5, .inl 0), (4, .inl 0), (3, .inl 1), (2, .inl (m0.1 34 0 2)), (0, .inr (.inr (.inl (some (34, 0))))), (1, .inl f)]) (st' := [.inl 0]) (m' := m94) (o := none) rfl trivial ?_
      exact ww_rI rfl rfl ⟨_, rfl, rfl, zB_mono hGm94 (by omega), hFm94, ⟨by omega, by omega, Or.inl ⟨by omega, Or.inr (Or.inr (zq27.elim (fun z => absurd z.1 (by omega)) (fun z => z.2))), by rw [hm94, hm88, hm2]; rfl, (by rw [hm94, hm88, hm2]; exact fun q => rfl)⟩⟩⟩
set_option maxRecDepth 8000 in
theorem zs236_l83 {sc : xSc} {n : Nat × Nat} {m0 : wm} {c : Int} (hc : 0 ≤ c ∧ c ≤ 1000000) (f : Int) (hG : zB c m0) (h0 : -2147483648 ≤ f ∧ f ≤ 2147483647) : ∀ (d : Nat), ∀ (kk : Int) (ii : Int) (m : wm), (12 - ii).toNat = d → zB c m → zfr (fun k i j => (k = 38 ∧ 6 * f.toNat ≤ j ∧ j < 6 * f.toNat + 6 ∧ 0 ≤ f ∧ f ≤ 1) ∨ (k = 40 ∧ 6 * f.toNat ≤ j ∧ j < 6 * f.toNat + 6 ∧ 0 ≤ f ∧ f ≤ 1) ∨ (k = 39 ∧ 36 * f.toNat ≤ j ∧ j < 36 * f.toNat + 36 ∧ 0 ≤ f ∧ f ≤ 1) ∨ (k = 41 ∧ 576 * f.toNat ≤ j ∧ j < 576 * f.toNat + 576 ∧ 0 ≤ f ∧ f ≤ 1) ∨ (k = 37 ∧ j = f.toNat ∧ 0 ≤ f ∧ f ≤ 1) ∨ (k = 34 ∧ j = 0) ∨ (k = 34 ∧ j = 1)) m0 m → (0 ≤ f ∧ f ≤ 1 ∧ 6 * f ≤ kk ∧ kk ≤ ii ∧ ii ≤ 6 * f + (m0.1 37 0 f.toNat - 1) ∧ m.1 37 0 f.toNat = m0.1 37 0 f.toNat - 1 ∧ 1 ≤ m0.1 37 0 f.toNat) → (m.1 34 0 1 = 0 ∧ m.1 34 0 2 = m0.1 34 0 2 ∧ m.1 34 0 0 = 0) → (zPl (fun x => zNR m0 (6 * f.toNat + x)) (m0.1 37 0 f.toNat) (zNH m0) (kk - 6 * f)) → (zAt (fun x => zNR m0 (6 * f.toNat + x)) (m0.1 37 0 f.toNat) (zNH m0) (kk - 6 * f)) → (zSd m0 m f.toNat kk ii) →  wW (zK sc) zM236 83 [(0, .inr (.inr (.inl (some (34, 0))))), (1, .inl f), (3, .inl kk), (5, .inl ii)] [] n m (wr (fun vv n1 m1 => ∃ r : Int, vv = some (.inl r) ∧ n = n1 ∧ zB c m1 ∧ zfr (fun k i j => (k = 38 ∧ 6 * f.toNat ≤ j ∧ j < 6 * f.toNat + 6 ∧ 0 ≤ f ∧ f ≤ 1) ∨ (k = 40 ∧ 6 * f.toNat ≤ j ∧ j < 6 * f.toNat + 6 ∧ 0 ≤ f ∧ f ≤ 1) ∨ (k = 39 ∧ 36 * f.toNat ≤ j ∧ j < 36 * f.toNat + 36 ∧ 0 ≤ f ∧ f ≤ 1) ∨ (k = 41 ∧ 576 * f.toNat ≤ j ∧ j < 576 * f.toNat + 576 ∧ 0 ≤ f ∧ f ≤ 1) ∨ (k = 37 ∧ j = f.toNat ∧ 0 ≤ f ∧ f ≤ 1) ∨ (k = 34 ∧ j = 0) ∨ (k = 34 ∧ j = 1)) m0 m1 ∧ (m1.1 34 0 1 = 0 ∧ m1.1 34 0 2 = m0.1 34 0 2 ∧ ((m1.1 34 0 0 = 1 ∧ (f < 0 ∨ 1 < f) ∧ m1.1 37 0 = m0.1 37 0 ∧ ∀ q, zFR m1 q = zFR m0 q) ∨ (m1.1 34 0 0 = 0 ∧ 0 ≤ f ∧ f ≤ 1 ∧ zTake (fun x => zFR m0 (6 * f.toNat + x)) (m0.1 37 0 f.toNat) (zNH m0) (fun x => zFR m1 (6 * f.toNat + x)) (m1.1 37 0 f.toNat) r))))) := by
  intro d
  induction d using Nat.strongRecOn with
  | ind d ih =>
    intro kk ii m hd hGm hFm hi hm hP hA hS
    have b0 : 0 ≤ m0.1 37 0 f.toNat ∧ m0.1 37 0 f.toNat ≤ 6 := hG.1 37 _ rfl _ _
    have b1 : 0 ≤ m.1 37 0 f.toNat ∧ m.1 37 0 f.toNat ≤ 6 := hGm.1 37 _ rfl _ _
    refine ww_go 9 (pc' := 96) (L' := [(0, .inr (.inr (.inl (some (34, 0))))), (1, .inl f), (3, .inl kk), (5, .inl ii)]) (st' := [.inl ((6 * f) + (m.1 37 0 f.toNat)), .inl ii]) (m' := m) (o := some ((0 < 1) ∧ (0 < 1 ∧ 0 ≤ f ∧ f < ((2 : Nat) : Int)))) rfl (show (0 < 1) ∧ (0 < 1 ∧ 0 ≤ f ∧ f < ((2 : Nat) : Int)) from by omega) ?_
    refine ww_ic (t := 115) rfl rfl (by omega) (fun (h2 : (6 * f) + (m.1 37 0 f.toNat) ≤ ii) => ?_) (fun (h2 : ¬ ((6 * f) + (m.1 37 0 f.toNat) ≤ ii)) => ?_)
    · show wW (zK sc) zM236 115 [(0, .inr (.inr (.inl (some (34, 0))))), (1, .inl f), (3, .inl kk), (5, .inl ii)] [] _ _ _
      refine ww_go 1 (pc' := 116) (L' := [(0, .inr (.inr (.inl (some (34, 0))))), (1, .inl f), (3, .inl kk), (5, .inl ii)]) (st' := [.inl 1]) (m' := m) (o := none) rfl trivial ?_
      have hi9 : ii = 6 * f + (m0.1 37 0 f.toNat - 1) := by omega
      rw [hi9] at hS
      exact ww_rB rfl rfl (by omega) ⟨_, rfl, rfl, zB_mono hGm (by omega), hFm, ⟨by omega, by omega, Or.inr ⟨by omega, by omega, by omega, zTake_r (by omega) hP hA hS (by omega) (by omega)⟩⟩⟩
    · show wW (zK sc) zM236 99 [(0, .inr (.inr (.inl (some (34, 0))))), (1, .inl f), (3, .inl kk), (5, .inl ii)] [] _ _ _
      refine ww_go 5 (pc' := 106) (L' := [(0, .inr (.inr (.inl (some (34, 0))))), (1, .inl f), (3, .inl kk), (5, .inl ii)]) (st' := [.inl ii, .inl (ii + 1), .inr (.inr (.inl (some (34, 0))))]) (m' := m) (o := none) rfl trivial ?_
      refine ww_call (vs := [.inr (.inr (.inl (some (34, 0)))), .inl (ii + 1), .inl ii]) (r := []) (p := 0 < 1) rfl rfl rfl rfl (show 0 < 1 from by omega) (zs224 (c := c) (by omega) (ii + 1) ii hGm (by omega)) ?_
      rintro _ _ m5 ⟨rfl, rfl, hGm5, hEm5, hr4⟩
      have hFm5 : zfr (fun k i j => (k = 38 ∧ 6 * f.toNat ≤ j ∧ j < 6 * f.toNat + 6 ∧ 0 ≤ f ∧ f ≤ 1) ∨ (k = 40 ∧ 6 * f.toNat ≤ j ∧ j < 6 * f.toNat + 6 ∧ 0 ≤ f ∧ f ≤ 1) ∨ (k = 39 ∧ 36 * f.toNat ≤ j ∧ j < 36 * f.toNat + 36 ∧ 0 ≤ f ∧ f ≤ 1) ∨ (k = 41 ∧ 576 * f.toNat ≤ j ∧ j < 576 * f.toNat + 576 ∧ 0 ≤ f ∧ f ≤ 1) ∨ (k = 37 ∧ j = f.toNat ∧ 0 ≤ f ∧ f ≤ 1) ∨ (k = 34 ∧ j = 0) ∨ (k = 34 ∧ j = 1)) m0 m5 := zfr_tr hFm hEm5 (fun k i j z => Or.elim z (fun z => (show (k = 38 ∧ 6 * f.toNat ≤ j ∧ j < 6 * f.toNat + 6 ∧ 0 ≤ f ∧ f ≤ 1) ∨ (k = 40 ∧ 6 * f.toNat ≤ j ∧ j < 6 * f.toNat + 6 ∧ 0 ≤ f ∧ f ≤ 1) ∨ (k = 39 ∧ 36 * f.toNat ≤ j ∧ j < 36 * f.toNat + 36 ∧ 0 ≤ f ∧ f ≤ 1) ∨ (k = 41 ∧ 576 * f.toNat ≤ j ∧ j < 576 * f.toNat + 576 ∧ 0 ≤ f ∧ f ≤ 1) ∨ (k = 37 ∧ j = f.toNat ∧ 0 ≤ f ∧ f ≤ 1) ∨ (k = 34 ∧ j = 0) ∨ (k = 34 ∧ j = 1) from Or.inl ((show k = 38 ∧ 6 * f.toNat ≤ j ∧ j < 6 * f.toNat + 6 ∧ 0 ≤ f ∧ f ≤ 1 from by omega)))) (fun z => Or.elim z (fun z => (show (k = 38 ∧ 6 * f.toNat ≤ j ∧ j < 6 * f.toNat + 6 ∧ 0 ≤ f ∧ f ≤ 1) ∨ (k = 40 ∧ 6 * f.toNat ≤ j ∧ j < 6 * f.toNat + 6 ∧ 0 ≤ f ∧ f ≤ 1) ∨ (k = 39 ∧ 36 * f.toNat ≤ j ∧ j < 36 * f.toNat + 36 ∧ 0 ≤ f ∧ f ≤ 1) ∨ (k = 41 ∧ 576 * f.toNat ≤ j ∧ j < 576 * f.toNat + 576 ∧ 0 ≤ f ∧ f ≤ 1) ∨ (k = 37 ∧ j = f.toNat ∧ 0 ≤ f ∧ f ≤ 1) ∨ (k = 34 ∧ j = 0) ∨ (k = 34 ∧ j = 1) from Or.inr (Or.inl ((show k = 40 ∧ 6 * f.toNat ≤ j ∧ j < 6 * f.toNat + 6 ∧ 0 ≤ f ∧ f ≤ 1 from by omega))))) (fun z => Or.elim z (fun z => (show (k = 38 ∧ 6 * f.toNat ≤ j ∧ j < 6 * f.toNat + 6 ∧ 0 ≤ f ∧ f ≤ 1) ∨ (k = 40 ∧ 6 * f.toNat ≤ j ∧ j < 6 * f.toNat + 6 ∧ 0 ≤ f ∧ f ≤ 1) ∨ (k = 39 ∧ 36 * f.toNat ≤ j ∧ j < 36 * f.toNat + 36 ∧ 0 ≤ f ∧ f ≤ 1) ∨ (k = 41 ∧ 576 * f.toNat ≤ j ∧ j < 576 * f.toNat + 576 ∧ 0 ≤ f ∧ f ≤ 1) ∨ (k = 37 ∧ j = f.toNat ∧ 0 ≤ f ∧ f ≤ 1) ∨ (k = 34 ∧ j = 0) ∨ (k = 34 ∧ j = 1) from Or.inr (Or.inr (Or.inl ((show k = 39 ∧ 36 * f.toNat ≤ j ∧ j < 36 * f.toNat + 36 ∧ 0 ≤ f ∧ f ≤ 1 from by omega)))))) (fun z => (show (k = 38 ∧ 6 * f.toNat ≤ j ∧ j < 6 * f.toNat + 6 ∧ 0 ≤ f ∧ f ≤ 1) ∨ (k = 40 ∧ 6 * f.toNat ≤ j ∧ j < 6 * f.toNat + 6 ∧ 0 ≤ f ∧ f ≤ 1) ∨ (k = 39 ∧ 36 * f.toNat ≤ j ∧ j < 36 * f.toNat + 36 ∧ 0 ≤ f ∧ f ≤ 1) ∨ (k = 41 ∧ 576 * f.toNat ≤ j ∧ j < 576 * f.toNat + 576 ∧ 0 ≤ f ∧ f ≤ 1) ∨ (k = 37 ∧ j = f.toNat ∧ 0 ≤ f ∧ f ≤ 1) ∨ (k = 34 ∧ j = 0) ∨ (k = 34 ∧ j = 1) from Or.inr (Or.inr (Or.inr (Or.inl ((show k = 41 ∧ 576 * f.toNat ≤ j ∧ j < 576 * f.toNat + 576 ∧ 0 ≤ f ∧ f ≤ 1 from by omega))))))))))
      have w6 : m5.1 34 0 0 = m.1 34 0 0 := (hEm5 34 0 0 (show ¬ ((34 = 38 ∧ 0 = ii.toNat) ∨ (34 = 40 ∧ 0 = ii.toNat) ∨ (34 = 39 ∧ 6 * ii.toNat ≤ 0 ∧ 0 < 6 * ii.toNat + 6) ∨ (34 = 41 ∧ 96 * ii.toNat ≤ 0 ∧ 0 < 96 * ii.toNat + 96)) from by omega)).1
      have w7 : m5.1 34 0 1 = m.1 34 0 1 := (hEm5 34 0 1 (show ¬ ((34 = 38 ∧ 1 = ii.toNat) ∨ (34 = 40 ∧ 1 = ii.toNat) ∨ (34 = 39 ∧ 6 * ii.toNat ≤ 1 ∧ 1 < 6 * ii.toNat + 6) ∨ (34 = 41 ∧ 96 * ii.toNat ≤ 1 ∧ 1 < 96 * ii.toNat + 96)) from by omega)).1
      have w8 : m5.1 34 0 2 = m.1 34 0 2 := (hEm5 34 0 2 (show ¬ ((34 = 38 ∧ 2 = ii.toNat) ∨ (34 = 40 ∧ 2 = ii.toNat) ∨ (34 = 39 ∧ 6 * ii.toNat ≤ 2 ∧ 2 < 6 * ii.toNat + 6) ∨ (34 = 41 ∧ 96 * ii.toNat ≤ 2 ∧ 2 < 96 * ii.toNat + 96)) from by omega)).1
      have w9 : m5.1 37 0 f.toNat = m.1 37 0 f.toNat := (hEm5 37 0 f.toNat (show ¬ ((37 = 38 ∧ f.toNat = ii.toNat) ∨ (37 = 40 ∧ f.toNat = ii.toNat) ∨ (37 = 39 ∧ 6 * ii.toNat ≤ f.toNat ∧ f.toNat < 6 * ii.toNat + 6) ∨ (37 = 41 ∧ 96 * ii.toNat ≤ f.toNat ∧ f.toNat < 96 * ii.toNat + 96)) from by omega)).1
      show wW (zK sc) zM236 109 [(0, .inr (.inr (.inl (some (34, 0))))), (1, .inl f), (3, .inl kk), (5, .inl ii)] [] _ _ _
      refine ww_go 2 (pc' := 83) (L' := [(5, .inl (ii + 1)), (0, .inr (.inr (.inl (some (34, 0))))), (1, .inl f), (3, .inl kk)]) (st' := []) (m' := m5) (o := none) rfl trivial ?_
      refine ww_sub (L := [(0, .inr (.inr (.inl (some (34, 0))))), (1, .inl f), (3, .inl kk), (5, .inl (ii + 1))]) ⟨rfl, rfl, rfl, rfl, trivial⟩ rfl rfl ?_
      exact (ih _ (by omega)) kk (ii + 1) m5 rfl (zB_mono hGm5 (by omega)) hFm5 (by omega) (by omega) (by exact hP) (by exact hA) (by exact zSd_s hS hGm hEm5 (fun k i j z => by have z9 : (k = 38 ∧ j = ii.toNat) ∨ (k = 40 ∧ j = ii.toNat) ∨ (k = 39 ∧ 6 * ii.toNat ≤ j ∧ j < 6 * ii.toNat + 6) ∨ (k = 41 ∧ 96 * ii.toNat ≤ j ∧ j < 96 * ii.toNat + 96) := z; omega) hr4 (by omega) (by omega) (by omega) (by omega))
set_option maxRecDepth 8000 in
/-- Mo.remove -/
theorem zs236 {sc : xSc} {n : Nat × Nat} {m0 : wm} {c : Int} (hc : 0 ≤ c ∧ c ≤ 1000000) (f : Int) (hG : zB c m0) (h0 : -2147483648 ≤ f ∧ f ≤ 2147483647) : wX (zK sc) 236 [.inr (.inr (.inl (some (34, 0)))), .inl f] n m0 (wr (fun vv n1 m1 => ∃ r : Int, vv = some (.inl r) ∧ n = n1 ∧ zB c m1 ∧ zfr (fun k i j => (k = 38 ∧ 6 * f.toNat ≤ j ∧ j < 6 * f.toNat + 6 ∧ 0 ≤ f ∧ f ≤ 1) ∨ (k = 40 ∧ 6 * f.toNat ≤ j ∧ j < 6 * f.toNat + 6 ∧ 0 ≤ f ∧ f ≤ 1) ∨ (k = 39 ∧ 36 * f.toNat ≤ j ∧ j < 36 * f.toNat + 36 ∧ 0 ≤ f ∧ f ≤ 1) ∨ (k = 41 ∧ 576 * f.toNat ≤ j ∧ j < 576 * f.toNat + 576 ∧ 0 ≤ f ∧ f ≤ 1) ∨ (k = 37 ∧ j = f.toNat ∧ 0 ≤ f ∧ f ≤ 1) ∨ (k = 34 ∧ j = 0) ∨ (k = 34 ∧ j = 1)) m0 m1 ∧ (m1.1 34 0 1 = 0 ∧ m1.1 34 0 2 = m0.1 34 0 2 ∧ ((m1.1 34 0 0 = 1 ∧ (f < 0 ∨ 1 < f) ∧ m1.1 37 0 = m0.1 37 0 ∧ ∀ q, zFR m1 q = zFR m0 q) ∨ (m1.1 34 0 0 = 0 ∧ 0 ≤ f ∧ f ≤ 1 ∧ zTake (fun x => zFR m0 (6 * f.toNat + x)) (m0.1 37 0 f.toNat) (zNH m0) (fun x => zFR m1 (6 * f.toNat + x)) (m1.1 37 0 f.toNat) r))))) := by
  refine wX_of (N := zM236) rfl (Nat.le_of_ble_eq_true rfl) ?_
  show wW (zK sc) zM236 0 [(0, .inr (.inr (.inl (some (34, 0))))), (1, .inl f)] [] n m0 _
  have hF : zfr (fun k i j => (k = 38 ∧ 6 * f.toNat ≤ j ∧ j < 6 * f.toNat + 6 ∧ 0 ≤ f ∧ f ≤ 1) ∨ (k = 40 ∧ 6 * f.toNat ≤ j ∧ j < 6 * f.toNat + 6 ∧ 0 ≤ f ∧ f ≤ 1) ∨ (k = 39 ∧ 36 * f.toNat ≤ j ∧ j < 36 * f.toNat + 36 ∧ 0 ≤ f ∧ f ≤ 1) ∨ (k = 41 ∧ 576 * f.toNat ≤ j ∧ j < 576 * f.toNat + 576 ∧ 0 ≤ f ∧ f ≤ 1) ∨ (k = 37 ∧ j = f.toNat ∧ 0 ≤ f ∧ f ≤ 1) ∨ (k = 34 ∧ j = 0) ∨ (k = 34 ∧ j = 1)) m0 m0 := zfr_rf
  have b0 : 0 ≤ m0.1 37 0 f.toNat ∧ m0.1 37 0 f.toNat ≤ 6 := hG.1 37 _ rfl _ _
  refine ww_go 3 (pc' := 3) (L' := [(0, .inr (.inr (.inl (some (34, 0))))), (1, .inl f)]) (st' := [.inl 1, .inl 0, .inl f]) (m' := m0) (o := none) rfl trivial ?_
  refine ww_call (vs := [.inl f, .inl 0, .inl 1]) (r := []) (p := True) rfl rfl rfl rfl trivial (zs207 f 0 1 (by omega)) ?_
  rintro _ _ _ ⟨r1, rfl, rfl, rfl, hr2⟩
  show wW (zK sc) zM236 6 [(0, .inr (.inr (.inl (some (34, 0))))), (1, .inl f)] [.inl r1] _ _ _
  refine ww_if (t := 13) rfl rfl (by omega) (fun (h3 : r1 ≠ 0) => ?_) (fun (h3 : ¬ (r1 ≠ 0)) => ?_)
  · show wW (zK sc) zM236 13 [(0, .inr (.inr (.inl (some (34, 0))))), (1, .inl f)] [] _ _ _
    refine ww_go 3 (pc' := 16) (L' := [(2, .inl 0), (0, .inr (.inr (.inl (some (34, 0))))), (1, .inl f)]) (st' := [.inl 0]) (m' := m0) (o := none) rfl trivial ?_
    refine ww_if (t := 23) rfl rfl (by decide) (fun (h4 : (0 : Int) = 0) => ?_) (fun (h4 : ¬ ((0 : Int) = 0)) => absurd (show (0 : Int) = 0 from by decide) h4)
    show wW (zK sc) zM236 23 [(2, .inl 0), (0, .inr (.inr (.inl (some (34, 0))))), (1, .inl f)] [] _ _ _
    refine ww_go 2 (pc' := 25) (L' := [(2, .inl 0), (0, .inr (.inr (.inl (some (34, 0))))), (1, .inl f)]) (st' := [.inl f, .inr (.inr (.inl (some (34, 0))))]) (m' := m0) (o := none) rfl trivial ?_
    refine ww_call (vs := [.inr (.inr (.inl (some (34, 0)))), .inl f]) (r := []) (p := 0 < 1) rfl rfl rfl rfl (show 0 < 1 from by omega) (zs230 (c := c) (by omega) f hG (by omega)) ?_
    rintro _ _ _ ⟨r5, rfl, rfl, rfl, hr6⟩
    have zq7 : zPl (fun x => zNR m0 (6 * f.toNat + x)) (m0.1 37 0 f.toNat) (zNH m0) (r5 - 6 * f) := by have z := hr6.2.2; exact z
    show wW (zK sc) zM236 28 [(2, .inl 0), (0, .inr (.inr (.inl (some (34, 0))))), (1, .inl f)] [.inl r5] _ _ _
    refine ww_go 2 (pc' := 30) (L' := [(3, .inl r5), (2, .inl 0), (0, .inr (.inr (.inl (some (34, 0))))), (1, .inl f)]) (st' := [.inl 0]) (m' := m0) (o := none) rfl trivial ?_
    refine ww_if (t := 46) rfl rfl (by decide) (fun (h8 : (0 : Int) ≠ 0) => absurd h8 (by decide)) (fun (h8 : ¬ ((0 : Int) ≠ 0)) => ?_)
    show wW (zK sc) zM236 33 [(3, .inl r5), (2, .inl 0), (0, .inr (.inr (.inl (some (34, 0))))), (1, .inl f)] [] _ _ _
    refine ww_go 3 (pc' := 36) (L' := [(3, .inl r5), (2, .inl 0), (0, .inr (.inr (.inl (some (34, 0))))), (1, .inl f)]) (st' := [.inl r5, .inl f, .inr (.inr (.inl (some (34, 0))))]) (m' := m0) (o := none) rfl trivial ?_
    refine ww_call (vs := [.inr (.inr (.inl (some (34, 0)))), .inl f, .inl r5]) (r := []) (p := 0 < 1) rfl rfl rfl rfl (show 0 < 1 from by omega) (zs214 (c := c) (by omega) f r5 hG (by omega)) ?_
    rintro _ _ _ ⟨r9, rfl, rfl, rfl, hr10⟩
    have zq11 : (r9 = 1 ∧ r5 - 6 * f < m0.1 37 0 f.toNat ∧ zAt (fun x => zNR m0 (6 * f.toNat + x)) (m0.1 37 0 f.toNat) (zNH m0) (r5 - 6 * f)) ∨ (r9 = 0 ∧ ¬ zAt (fun x => zNR m0 (6 * f.toNat + x)) (m0.1 37 0 f.toNat) (zNH m0) (r5 - 6 * f)) := by have z := hr10; exact z.imp (fun z => ⟨z.1, z.2.2.1, z.2.2⟩) id
    show wW (zK sc) zM236 39 [(3, .inl r5), (2, .inl 0), (0, .inr (.inr (.inl (some (34, 0))))), (1, .inl f)] [.inl r9] _ _ _
    refine ww_if (t := 46) rfl rfl (by omega) (fun (h12 : r9 = 0) => ?_) (fun (h12 : ¬ (r9 = 0)) => ?_)
    · show wW (zK sc) zM236 46 [(3, .inl r5), (2, .inl 0), (0, .inr (.inr (.inl (some (34, 0))))), (1, .inl f)] [] _ _ _
      refine ww_go 5 (pc' := 54) (L' := [(4, .inl 0), (3, .inl r5), (2, .inl 0), (0, .inr (.inr (.inl (some (34, 0))))), (1, .inl f)]) (st' := []) (m' := wuI m0 34 0 1 0) (o := some ((0 < 1))) rfl (show (0 < 1) from by omega) ?_
      obtain ⟨m13, hm13⟩ : ∃ zq9 : wm, zq9 = wuI m0 34 0 1 0 := ⟨_, rfl⟩
      rw [← hm13]
      have hGm13 : zB c m13 := by rw [hm13]; exact zB_wI rfl (show 0 ≤ (0 : Int) ∧ (0 : Int) ≤ 6 from by omega) hG
      have hFm13 : zfr (fun k i j => (k = 38 ∧ 6 * f.toNat ≤ j ∧ j < 6 * f.toNat + 6 ∧ 0 ≤ f ∧ f ≤ 1) ∨ (k = 40 ∧ 6 * f.toNat ≤ j ∧ j < 6 * f.toNat + 6 ∧ 0 ≤ f ∧ f ≤ 1) ∨ (k = 39 ∧ 36 * f.toNat ≤ j ∧ j < 36 * f.toNat + 36 ∧ 0 ≤ f ∧ f ≤ 1) ∨ (k = 41 ∧ 576 * f.toNat ≤ j ∧ j < 576 * f.toNat + 576 ∧ 0 ≤ f ∧ f ≤ 1) ∨ (k = 37 ∧ j = f.toNat ∧ 0 ≤ f ∧ f ≤ 1) ∨ (k = 34 ∧ j = 0) ∨ (k = 34 ∧ j = 1)) m0 m13 := by rw [hm13]; exact zfr_wI hF (show (34 = 38 ∧ 6 * f.toNat ≤ 1 ∧ 1 < 6 * f.toNat + 6 ∧ 0 ≤ f ∧ f ≤ 1) ∨ (34 = 40 ∧ 6 * f.toNat ≤ 1 ∧ 1 < 6 * f.toNat + 6 ∧ 0 ≤ f ∧ f ≤ 1) ∨ (34 = 39 ∧ 36 * f.toNat ≤ 1 ∧ 1 < 36 * f.toNat + 36 ∧ 0 ≤ f ∧ f ≤ 1) ∨ (34 = 41 ∧ 576 * f.toNat ≤ 1 ∧ 1 < 576 * f.toNat + 576 ∧ 0 ≤ f ∧ f ≤ 1) ∨ (34 = 37 ∧ 1 = f.toNat ∧ 0 ≤ f ∧ f ≤ 1) ∨ (34 = 34 ∧ 1 = 0) ∨ (34 = 34 ∧ 1 = 1) from Or.inr (Or.inr (Or.inr (Or.inr (Or.inr (Or.inr (⟨rfl, rfl⟩)))))))
      have s14 : m13.1 34 0 1 = (0 : Int) := by rw [hm13]; exact wuI_self
      have w15 : m13.1 34 0 0 = m0.1 34 0 0 := by rw [hm13]; exact wuI_nj (by omega)
      have w16 : m13.1 34 0 2 = m0.1 34 0 2 := by rw [hm13]; exact wuI_nj (by omega)
      have w17 : m13.1 37 0 f.toNat = m0.1 37 0 f.toNat := by rw [hm13]; rfl
      refine ww_go 3 (pc' := 57) (L' := [(4, .inl 0), (3, .inl r5), (2, .inl 0), (0, .inr (.inr (.inl (some (34, 0))))), (1, .inl f)]) (st' := [.inl 1, .inl 0, .inr (.inr (.inl (some (34, 0))))]) (m' := m13) (o := none) rfl trivial ?_
      refine ww_call (vs := [.inr (.inr (.inl (some (34, 0)))), .inl 0, .inl 1]) (r := []) (p := 0 < 1) rfl rfl rfl rfl (show 0 < 1 from by omega) (zs196 (c := c) (by omega) 0 1 hGm13 (by omega)) ?_
      rintro _ _ m20 ⟨r18, rfl, rfl, hGm20, hEm20, hr19⟩
      have hFm20 : zfr (fun k i j => (k = 38 ∧ 6 * f.toNat ≤ j ∧ j < 6 * f.toNat + 6 ∧ 0 ≤ f ∧ f ≤ 1) ∨ (k = 40 ∧ 6 * f.toNat ≤ j ∧ j < 6 * f.toNat + 6 ∧ 0 ≤ f ∧ f ≤ 1) ∨ (k = 39 ∧ 36 * f.toNat ≤ j ∧ j < 36 * f.toNat + 36 ∧ 0 ≤ f ∧ f ≤ 1) ∨ (k = 41 ∧ 576 * f.toNat ≤ j ∧ j < 576 * f.toNat + 576 ∧ 0 ≤ f ∧ f ≤ 1) ∨ (k = 37 ∧ j = f.toNat ∧ 0 ≤ f ∧ f ≤ 1) ∨ (k = 34 ∧ j = 0) ∨ (k = 34 ∧ j = 1)) m0 m20 := zfr_tr hFm13 hEm20 (fun k i j z => Or.inr (Or.inr (Or.inr (Or.inr (Or.inr (Or.inl z))))))
      have w21 : m20.1 34 0 1 = m13.1 34 0 1 := (hEm20 34 0 1 (show ¬ ((34 = 34 ∧ 1 = 0)) from by omega)).1
      have w22 : m20.1 34 0 2 = m13.1 34 0 2 := (hEm20 34 0 2 (show ¬ ((34 = 34 ∧ 2 = 0)) from by omega)).1
      have w23 : m20.1 37 0 f.toNat = m13.1 37 0 f.toNat := (hEm20 37 0 f.toNat (show ¬ ((37 = 34 ∧ f.toNat = 0)) from by omega)).1
      show wW (zK sc) zM236 60 [(4, .inl 0), (3, .inl r5), (2, .inl 0), (0, .inr (.inr (.inl (some (34, 0))))), (1, .inl f)] [.inl r18] _ _ _
      refine ww_if (t := 68) rfl rfl (by omega) (fun (h24 : r18 ≠ 0) => ?_) (fun (h24 : ¬ (r18 ≠ 0)) => ?_)
      · show wW (zK sc) zM236 68 [(4, .inl 0), (3, .inl r5), (2, .inl 0), (0, .inr (.inr (.inl (some (34, 0))))), (1, .inl f)] [] _ _ _
        refine ww_go 1 (pc' := 69) (L' := [(4, .inl 0), (3, .inl r5), (2, .inl 0), (0, .inr (.inr (.inl (some (34, 0))))), (1, .inl f)]) (st' := [.inl 0]) (m' := m20) (o := none) rfl trivial ?_
        have zf25 : ∀ q, zFR m13 q = zFR m0 q := by rw [hm13]; exact fun q => rfl
        have zf26 : ∀ q, zFR m20 q = zFR m0 q := fun q => (zFR_o (to := q + 1) hGm13 hEm20 (fun k i j z => by have z9 : (k = 34 ∧ j = 0) := z; omega) (by omega)).trans (zf25 q)
        exact ww_rB rfl rfl (by omega) ⟨_, rfl, rfl, zB_mono hGm20 (by omega), hFm20, ⟨by omega, by omega, Or.inr ⟨by omega, by omega, by omega, zTake_f zq7 (zq11.elim (fun z => absurd z.1 (by omega)) (fun z => z.2)) zf26 (by omega)⟩⟩⟩
      · show wW (zK sc) zM236 63 [(4, .inl 0), (3, .inl r5), (2, .inl 0), (0, .inr (.inr (.inl (some (34, 0))))), (1, .inl f)] [] _ _ _
        refine ww_go 1 (pc' := 65) (L' := [(4, .inl 0), (3, .inl r5), (2, .inl 0), (0, .inr (.inr (.inl (some (34, 0))))), (1, .inl f)]) (st' := [.inl 0]) (m' := m20) (o := none) rfl trivial ?_
        refine ww_if (t := 70) rfl rfl (by decide) (fun (h27 : (0 : Int) ≠ 0) => absurd h27 (by decide)) (fun (h27 : ¬ ((0 : Int) ≠ 0)) => ?_)
        show wW (zK sc) zM236 68 [(4, .inl 0), (3, .inl r5), (2, .inl 0), (0, .inr (.inr (.inl (some (34, 0))))), (1, .inl f)] [] _ _ _
        refine ww_go 1 (pc' := 69) (L' := [(4, .inl 0), (3, .inl r5), (2, .inl 0), (0, .inr (.inr (.inl (some (34, 0))))), (1, .inl f)]) (st' := [.inl 0]) (m' := m20) (o := none) rfl trivial ?_
        have zf28 : ∀ q, zFR m13 q = zFR m0 q := by rw [hm13]; exact fun q => rfl
        have zf29 : ∀ q, zFR m20 q = zFR m0 q := fun q => (zFR_o (to := q + 1) hGm13 hEm20 (fun k i j z => by have z9 : (k = 34 ∧ j = 0) := z; omega) (by omega)).trans (zf28 q)
        exact ww_rB rfl rfl (by omega) ⟨_, rfl, rfl, zB_mono hGm20 (by omega), hFm20, ⟨by omega, by omega, Or.inr ⟨by omega, by omega, by omega, zTake_f zq7 (zq11.elim (fun z => absurd z.1 (by omega)) (fun z => z.2)) zf29 (by omega)⟩⟩⟩
    · show wW (zK sc) zM236 42 [(3, .inl r5), (2, .inl 0), (0, .inr (.inr (.inl (some (34, 0))))), (1, .inl f)] [] _ _ _
      refine ww_go 6 (pc' := 54) (L' := [(4, .inl 1), (3, .inl r5), (2, .inl 0), (0, .inr (.inr (.inl (some (34, 0))))), (1, .inl f)]) (st' := []) (m' := wuI m0 34 0 1 0) (o := some ((0 < 1))) rfl (show (0 < 1) from by omega) ?_
      obtain ⟨m30, hm30⟩ : ∃ zq9 : wm, zq9 = wuI m0 34 0 1 0 := ⟨_, rfl⟩
      rw [← hm30]
      have hGm30 : zB c m30 := by rw [hm30]; exact zB_wI rfl (show 0 ≤ (0 : Int) ∧ (0 : Int) ≤ 6 from by omega) hG
      have hFm30 : zfr (fun k i j => (k = 38 ∧ 6 * f.toNat ≤ j ∧ j < 6 * f.toNat + 6 ∧ 0 ≤ f ∧ f ≤ 1) ∨ (k = 40 ∧ 6 * f.toNat ≤ j ∧ j < 6 * f.toNat + 6 ∧ 0 ≤ f ∧ f ≤ 1) ∨ (k = 39 ∧ 36 * f.toNat ≤ j ∧ j < 36 * f.toNat + 36 ∧ 0 ≤ f ∧ f ≤ 1) ∨ (k = 41 ∧ 576 * f.toNat ≤ j ∧ j < 576 * f.toNat + 576 ∧ 0 ≤ f ∧ f ≤ 1) ∨ (k = 37 ∧ j = f.toNat ∧ 0 ≤ f ∧ f ≤ 1) ∨ (k = 34 ∧ j = 0) ∨ (k = 34 ∧ j = 1)) m0 m30 := by rw [hm30]; exact zfr_wI hF (show (34 = 38 ∧ 6 * f.toNat ≤ 1 ∧ 1 < 6 * f.toNat + 6 ∧ 0 ≤ f ∧ f ≤ 1) ∨ (34 = 40 ∧ 6 * f.toNat ≤ 1 ∧ 1 < 6 * f.toNat + 6 ∧ 0 ≤ f ∧ f ≤ 1) ∨ (34 = 39 ∧ 36 * f.toNat ≤ 1 ∧ 1 < 36 * f.toNat + 36 ∧ 0 ≤ f ∧ f ≤ 1) ∨ (34 = 41 ∧ 576 * f.toNat ≤ 1 ∧ 1 < 576 * f.toNat + 576 ∧ 0 ≤ f ∧ f ≤ 1) ∨ (34 = 37 ∧ 1 = f.toNat ∧ 0 ≤ f ∧ f ≤ 1) ∨ (34 = 34 ∧ 1 = 0) ∨ (34 = 34 ∧ 1 = 1) from Or.inr (Or.inr (Or.inr (Or.inr (Or.inr (Or.inr (⟨rfl, rfl⟩)))))))
      have s31 : m30.1 34 0 1 = (0 : Int) := by rw [hm30]; exact wuI_self
      have w32 : m30.1 34 0 0 = m0.1 34 0 0 := by rw [hm30]; exact wuI_nj (by omega)
      have w33 : m30.1 34 0 2 = m0.1 34 0 2 := by rw [hm30]; exact wuI_nj (by omega)
      have w34 : m30.1 37 0 f.toNat = m0.1 37 0 f.toNat := by rw [hm30]; rfl
      refine ww_go 3 (pc' := 57) (L' := [(4, .inl 1), (3, .inl r5), (2, .inl 0), (0, .inr (.inr (.inl (some (34, 0))))), (1, .inl f)]) (st' := [.inl 1, .inl 0, .inr (.inr (.inl (some (34, 0))))]) (m' := m30) (o := none) rfl trivial ?_
      refine ww_call (vs := [.inr (.inr (.inl (some (34, 0)))), .inl 0, .inl 1]) (r := []) (p := 0 < 1) rfl rfl rfl rfl (show 0 < 1 from by omega) (zs196 (c := c) (by omega) 0 1 hGm30 (by omega)) ?_
      rintro _ _ m37 ⟨r35, rfl, rfl, hGm37, hEm37, hr36⟩
      have hFm37 : zfr (fun k i j => (k = 38 ∧ 6 * f.toNat ≤ j ∧ j < 6 * f.toNat + 6 ∧ 0 ≤ f ∧ f ≤ 1) ∨ (k = 40 ∧ 6 * f.toNat ≤ j ∧ j < 6 * f.toNat + 6 ∧ 0 ≤ f ∧ f ≤ 1) ∨ (k = 39 ∧ 36 * f.toNat ≤ j ∧ j < 36 * f.toNat + 36 ∧ 0 ≤ f ∧ f ≤ 1) ∨ (k = 41 ∧ 576 * f.toNat ≤ j ∧ j < 576 * f.toNat + 576 ∧ 0 ≤ f ∧ f ≤ 1) ∨ (k = 37 ∧ j = f.toNat ∧ 0 ≤ f ∧ f ≤ 1) ∨ (k = 34 ∧ j = 0) ∨ (k = 34 ∧ j = 1)) m0 m37 := zfr_tr hFm30 hEm37 (fun k i j z => Or.inr (Or.inr (Or.inr (Or.inr (Or.inr (Or.inl z))))))
      have w38 : m37.1 34 0 1 = m30.1 34 0 1 := (hEm37 34 0 1 (show ¬ ((34 = 34 ∧ 1 = 0)) from by omega)).1
      have w39 : m37.1 34 0 2 = m30.1 34 0 2 := (hEm37 34 0 2 (show ¬ ((34 = 34 ∧ 2 = 0)) from by omega)).1
      have w40 : m37.1 37 0 f.toNat = m30.1 37 0 f.toNat := (hEm37 37 0 f.toNat (show ¬ ((37 = 34 ∧ f.toNat = 0)) from by omega)).1
      show wW (zK sc) zM236 60 [(4, .inl 1), (3, .inl r5), (2, .inl 0), (0, .inr (.inr (.inl (some (34, 0))))), (1, .inl f)] [.inl r35] _ _ _
      refine ww_if (t := 68) rfl rfl (by omega) (fun (h41 : r35 ≠ 0) => ?_) (fun (h41 : ¬ (r35 ≠ 0)) => ?_)
      · show wW (zK sc) zM236 68 [(4, .inl 1), (3, .inl r5), (2, .inl 0), (0, .inr (.inr (.inl (some (34, 0))))), (1, .inl f)] [] _ _ _
        refine ww_go 1 (pc' := 69) (L' := [(4, .inl 1), (3, .inl r5), (2, .inl 0), (0, .inr (.inr (.inl (some (34, 0))))), (1, .inl f)]) (st' := [.inl 0]) (m' := m37) (o := none) rfl trivial ?_
        have zf42 : ∀ q, zFR m30 q = zFR m0 q := by rw [hm30]; exact fun q => rfl
        have zf43 : ∀ q, zFR m37 q = zFR m0 q := fun q => (zFR_o (to := q + 1) hGm30 hEm37 (fun k i j z => by have z9 : (k = 34 ∧ j = 0) := z; omega) (by omega)).trans (zf42 q)
        exact ww_rB rfl rfl (by omega) ⟨_, rfl, rfl, zB_mono hGm37 (by omega), hFm37, ⟨by omega, by omega, Or.inr ⟨by omega, by omega, by omega, zTake_f zq7 (zq11.elim (fun z => absurd z.1 (by omega)) (fun z => z.2)) zf43 (by omega)⟩⟩⟩
      · show wW (zK sc) zM236 63 [(4, .inl 1), (3, .inl r5), (2, .inl 0), (0, .inr (.inr (.inl (some (34, 0))))), (1, .inl f)] [] _ _ _
        refine ww_go 1 (pc' := 65) (L' := [(4, .inl 1), (3, .inl r5), (2, .inl 0), (0, .inr (.inr (.inl (some (34, 0))))), (1, .inl f)]) (st' := [.inl 1]) (m' := m37) (o := none) rfl trivial ?_
        refine ww_if (t := 70) rfl rfl (by decide) (fun (h44 : (1 : Int) ≠ 0) => ?_) (fun (h44 : ¬ ((1 : Int) ≠ 0)) => absurd (show (1 : Int) ≠ 0 from by decide) h44)
        show wW (zK sc) zM236 70 [(4, .inl 1), (3, .inl r5), (2, .inl 0), (0, .inr (.inr (.inl (some (34, 0))))), (1, .inl f)] [] _ _ _
        have b45 : 0 ≤ m37.1 37 0 f.toNat ∧ m37.1 37 0 f.toNat ≤ 6 := hGm37.1 37 _ rfl _ _
        refine ww_go 8 (pc' := 80) (L' := [(4, .inl 1), (3, .inl r5), (2, .inl 0), (0, .inr (.inr (.inl (some (34, 0))))), (1, .inl f)]) (st' := []) (m' := wuI m37 37 0 f.toNat ((m37.1 37 0 f.toNat) - 1)) (o := some ((0 < 1) ∧ (0 < 1 ∧ 0 ≤ f ∧ f < ((2 : Nat) : Int)) ∧ (0 < 1 ∧ 0 ≤ f ∧ f < ((2 : Nat) : Int)))) rfl (show (0 < 1) ∧ (0 < 1 ∧ 0 ≤ f ∧ f < ((2 : Nat) : Int)) ∧ (0 < 1 ∧ 0 ≤ f ∧ f < ((2 : Nat) : Int)) from by omega) ?_
        obtain ⟨m46, hm46⟩ : ∃ zq9 : wm, zq9 = wuI m37 37 0 f.toNat ((m37.1 37 0 f.toNat) - 1) := ⟨_, rfl⟩
        rw [← hm46]
        have hGm46 : zB c m46 := by rw [hm46]; exact zB_wI rfl (show 0 ≤ (m37.1 37 0 f.toNat) - 1 ∧ (m37.1 37 0 f.toNat) - 1 ≤ 6 from by omega) hGm37
        have hFm46 : zfr (fun k i j => (k = 38 ∧ 6 * f.toNat ≤ j ∧ j < 6 * f.toNat + 6 ∧ 0 ≤ f ∧ f ≤ 1) ∨ (k = 40 ∧ 6 * f.toNat ≤ j ∧ j < 6 * f.toNat + 6 ∧ 0 ≤ f ∧ f ≤ 1) ∨ (k = 39 ∧ 36 * f.toNat ≤ j ∧ j < 36 * f.toNat + 36 ∧ 0 ≤ f ∧ f ≤ 1) ∨ (k = 41 ∧ 576 * f.toNat ≤ j ∧ j < 576 * f.toNat + 576 ∧ 0 ≤ f ∧ f ≤ 1) ∨ (k = 37 ∧ j = f.toNat ∧ 0 ≤ f ∧ f ≤ 1) ∨ (k = 34 ∧ j = 0) ∨ (k = 34 ∧ j = 1)) m0 m46 := by rw [hm46]; exact zfr_wI hFm37 (show (37 = 38 ∧ 6 * f.toNat ≤ f.toNat ∧ f.toNat < 6 * f.toNat + 6 ∧ 0 ≤ f ∧ f ≤ 1) ∨ (37 = 40 ∧ 6 * f.toNat ≤ f.toNat ∧ f.toNat < 6 * f.toNat + 6 ∧ 0 ≤ f ∧ f ≤ 1) ∨ (37 = 39 ∧ 36 * f.toNat ≤ f.toNat ∧ f.toNat < 36 * f.toNat + 36 ∧ 0 ≤ f ∧ f ≤ 1) ∨ (37 = 41 ∧ 576 * f.toNat ≤ f.toNat ∧ f.toNat < 576 * f.toNat + 576 ∧ 0 ≤ f ∧ f ≤ 1) ∨ (37 = 37 ∧ f.toNat = f.toNat ∧ 0 ≤ f ∧ f ≤ 1) ∨ (37 = 34 ∧ f.toNat = 0) ∨ (37 = 34 ∧ f.toNat = 1) from Or.inr (Or.inr (Or.inr (Or.inr (Or.inl ((show (37 = 37 ∧ f.toNat = f.toNat ∧ 0 ≤ f ∧ f ≤ 1) from by omega)))))))
        have s47 : m46.1 37 0 f.toNat = (m37.1 37 0 f.toNat) - 1 := by rw [hm46]; exact wuI_self
        have w48 : m46.1 34 0 0 = m37.1 34 0 0 := by rw [hm46]; rfl
        have w49 : m46.1 34 0 1 = m37.1 34 0 1 := by rw [hm46]; rfl
        have w50 : m46.1 34 0 2 = m37.1 34 0 2 := by rw [hm46]; rfl
        refine ww_go 2 (pc' := 83) (L' := [(5, .inl r5), (4, .inl 1), (3, .inl r5), (2, .inl 0), (0, .inr (.inr (.inl (some (34, 0))))), (1, .inl f)]) (st' := []) (m' := m46) (o := none) rfl trivial ?_
        refine ww_sub (L := [(0, .inr (.inr (.inl (some (34, 0))))), (1, .inl f), (3, .inl r5), (5, .inl r5)]) ⟨rfl, rfl, rfl, rfl, trivial⟩ rfl rfl ?_
        have zf51 : ∀ q, zFR m30 q = zFR m0 q := by rw [hm30]; exact fun q => rfl
        have zf52 : ∀ q, zFR m37 q = zFR m0 q := fun q => (zFR_o (to := q + 1) hGm30 hEm37 (fun k i j z => by have z9 : (k = 34 ∧ j = 0) := z; omega) (by omega)).trans (zf51 q)
        have zf53 : ∀ q, zFR m46 q = zFR m0 q := by rw [hm46]; exact zf52
        exact (zs236_l83 hc f hG h0 _) r5 r5 m46 rfl (zB_mono hGm46 (by omega)) hFm46 (by omega) (by omega) (by exact zq7) (by exact zq11.elim (fun z => z.2.2) (fun z => absurd z.1 (by omega))) (by exact fun q q1 q2 => (by rw [zf53 q, if_neg (by omega)]))
  · show wW (zK sc) zM236 9 [(0, .inr (.inr (.inl (some (34, 0))))), (1, .inl f)] [] _ _ _
    refine ww_go 4 (pc' := 16) (L' := [(2, .inl 1), (0, .inr (.inr (.inl (some (34, 0))))), (1, .inl f)]) (st' := [.inl 1]) (m' := m0) (o := none) rfl trivial ?_
    refine ww_if (t := 23) rfl rfl (by decide) (fun (h54 : (1 : Int) = 0) => absurd h54 (by decide)) (fun (h54 : ¬ ((1 : Int) = 0)) => ?_)
    show wW (zK sc) zM236 19 [(2, .inl 1), (0, .inr (.inr (.inl (some (34, 0))))), (1, .inl f)] [] _ _ _
    refine ww_go 4 (pc' := 30) (L' := [(3, .inl 0), (2, .inl 1), (0, .inr (.inr (.inl (some (34, 0))))), (1, .inl f)]) (st' := [.inl 1]) (m' := m0) (o := none) rfl trivial ?_
    refine ww_if (t := 46) rfl rfl (by decide) (fun (h55 : (1 : Int) ≠ 0) => ?_) (fun (h55 : ¬ ((1 : Int) ≠ 0)) => absurd (show (1 : Int) ≠ 0 from by decide) h55)
    show wW (zK sc) zM236 46 [(3, .inl 0), (2, .inl 1), (0, .inr (.inr (.inl (some (34, 0))))), (1, .inl f)] [] _ _ _
    refine ww_go 5 (pc' := 54) (L' := [(4, .inl 0), (3, .inl 0), (2, .inl 1), (0, .inr (.inr (.inl (some (34, 0))))), (1, .inl f)]) (st' := []) (m' := wuI m0 34 0 1 0) (o := some ((0 < 1))) rfl (show (0 < 1) from by omega) ?_
    obtain ⟨m56, hm56⟩ : ∃ zq9 : wm, zq9 = wuI m0 34 0 1 0 := ⟨_, rfl⟩
    rw [← hm56]
    have hGm56 : zB c m56 := by rw [hm56]; exact zB_wI rfl (show 0 ≤ (0 : Int) ∧ (0 : Int) ≤ 6 from by omega) hG
    have hFm56 : zfr (fun k i j => (k = 38 ∧ 6 * f.toNat ≤ j ∧ j < 6 * f.toNat + 6 ∧ 0 ≤ f ∧ f ≤ 1) ∨ (k = 40 ∧ 6 * f.toNat ≤ j ∧ j < 6 * f.toNat + 6 ∧ 0 ≤ f ∧ f ≤ 1) ∨ (k = 39 ∧ 36 * f.toNat ≤ j ∧ j < 36 * f.toNat + 36 ∧ 0 ≤ f ∧ f ≤ 1) ∨ (k = 41 ∧ 576 * f.toNat ≤ j ∧ j < 576 * f.toNat + 576 ∧ 0 ≤ f ∧ f ≤ 1) ∨ (k = 37 ∧ j = f.toNat ∧ 0 ≤ f ∧ f ≤ 1) ∨ (k = 34 ∧ j = 0) ∨ (k = 34 ∧ j = 1)) m0 m56 := by rw [hm56]; exact zfr_wI hF (show (34 = 38 ∧ 6 * f.toNat ≤ 1 ∧ 1 < 6 * f.toNat + 6 ∧ 0 ≤ f ∧ f ≤ 1) ∨ (34 = 40 ∧ 6 * f.toNat ≤ 1 ∧ 1 < 6 * f.toNat + 6 ∧ 0 ≤ f ∧ f ≤ 1) ∨ (34 = 39 ∧ 36 * f.toNat ≤ 1 ∧ 1 < 36 * f.toNat + 36 ∧ 0 ≤ f ∧ f ≤ 1) ∨ (34 = 41 ∧ 576 * f.toNat ≤ 1 ∧ 1 < 576 * f.toNat + 576 ∧ 0 ≤ f ∧ f ≤ 1) ∨ (34 = 37 ∧ 1 = f.toNat ∧ 0 ≤ f ∧ f ≤ 1) ∨ (34 = 34 ∧ 1 = 0) ∨ (34 = 34 ∧ 1 = 1) from Or.inr (Or.inr (Or.inr (Or.inr (Or.inr (Or.inr (⟨rfl, rfl⟩)))))))
    have s57 : m56.1 34 0 1 = (0 : Int) := by rw [hm56]; exact wuI_self
    have w58 : m56.1 34 0 0 = m0.1 34 0 0 := by rw [hm56]; exact wuI_nj (by omega)
    have w59 : m56.1 34 0 2 = m0.1 34 0 2 := by rw [hm56]; exact wuI_nj (by omega)
    have w60 : m56.1 37 0 f.toNat = m0.1 37 0 f.toNat := by rw [hm56]; rfl
    refine ww_go 3 (pc' := 57) (L' := [(4, .inl 0), (3, .inl 0), (2, .inl 1), (0, .inr (.inr (.inl (some (34, 0))))), (1, .inl f)]) (st' := [.inl 1, .inl 1, .inr (.inr (.inl (some (34, 0))))]) (m' := m56) (o := none) rfl trivial ?_
    refine ww_call (vs := [.inr (.inr (.inl (some (34, 0)))), .inl 1, .inl 1]) (r := []) (p := 0 < 1) rfl rfl rfl rfl (show 0 < 1 from by omega) (zs196 (c := c) (by omega) 1 1 hGm56 (by omega)) ?_
    rintro _ _ m63 ⟨r61, rfl, rfl, hGm63, hEm63, hr62⟩
    have hFm63 : zfr (fun k i j => (k = 38 ∧ 6 * f.toNat ≤ j ∧ j < 6 * f.toNat + 6 ∧ 0 ≤ f ∧ f ≤ 1) ∨ (k = 40 ∧ 6 * f.toNat ≤ j ∧ j < 6 * f.toNat + 6 ∧ 0 ≤ f ∧ f ≤ 1) ∨ (k = 39 ∧ 36 * f.toNat ≤ j ∧ j < 36 * f.toNat + 36 ∧ 0 ≤ f ∧ f ≤ 1) ∨ (k = 41 ∧ 576 * f.toNat ≤ j ∧ j < 576 * f.toNat + 576 ∧ 0 ≤ f ∧ f ≤ 1) ∨ (k = 37 ∧ j = f.toNat ∧ 0 ≤ f ∧ f ≤ 1) ∨ (k = 34 ∧ j = 0) ∨ (k = 34 ∧ j = 1)) m0 m63 := zfr_tr hFm56 hEm63 (fun k i j z => Or.inr (Or.inr (Or.inr (Or.inr (Or.inr (Or.inl z))))))
    have w64 : m63.1 34 0 1 = m56.1 34 0 1 := (hEm63 34 0 1 (show ¬ ((34 = 34 ∧ 1 = 0)) from by omega)).1
    have w65 : m63.1 34 0 2 = m56.1 34 0 2 := (hEm63 34 0 2 (show ¬ ((34 = 34 ∧ 2 = 0)) from by omega)).1
    have w66 : m63.1 37 0 f.toNat = m56.1 37 0 f.toNat := (hEm63 37 0 f.toNat (show ¬ ((37 = 34 ∧ f.toNat = 0)) from by omega)).1
    show wW (zK sc) zM236 60 [(4, .inl 0), (3, .inl 0), (2, .inl 1), (0, .inr (.inr (.inl (some (34, 0))))), (1, .inl f)] [.inl r61] _ _ _
    refine ww_if (t := 68) rfl rfl (by omega) (fun (h67 : r61 ≠ 0) => ?_) (fun (h67 : ¬ (r61 ≠ 0)) => ?_)
    · show wW (zK sc) zM236 68 [(4, .inl 0), (3, .inl 0), (2, .inl 1), (0, .inr (.inr (.inl (some (34, 0))))), (1, .inl f)] [] _ _ _
      refine ww_go 1 (pc' := 69) (L' := [(4, .inl 0), (3, .inl 0), (2, .inl 1), (0, .inr (.inr (.inl (some (34, 0))))), (1, .inl f)]) (st' := [.inl 0]) (m' := m63) (o := none) rfl trivial ?_
      have zf68 : ∀ q, zFR m56 q = zFR m0 q := by rw [hm56]; exact fun q => rfl
      have zf69 : ∀ q, zFR m63 q = zFR m0 q := fun q => (zFR_o (to := q + 1) hGm56 hEm63 (fun k i j z => by have z9 : (k = 34 ∧ j = 0) := z; omega) (by omega)).trans (zf68 q)
      have zv70 : m56.1 37 0 = m0.1 37 0 := by rw [hm56]; exact rfl
      have zv71 : m63.1 37 0 = m0.1 37 0 := Eq.trans (by funext j; exact (hEm63 37 0 j (show ¬ ((37 = 34 ∧ j = 0)) from by omega)).1) (zv70)
      exact ww_rB rfl rfl (by omega) ⟨_, rfl, rfl, zB_mono hGm63 (by omega), hFm63, ⟨by omega, by omega, Or.inl ⟨by omega, by omega, zv71, zf69⟩⟩⟩
    · show wW (zK sc) zM236 63 [(4, .inl 0), (3, .inl 0), (2, .inl 1), (0, .inr (.inr (.inl (some (34, 0))))), (1, .inl f)] [] _ _ _
      refine ww_go 1 (pc' := 65) (L' := [(4, .inl 0), (3, .inl 0), (2, .inl 1), (0, .inr (.inr (.inl (some (34, 0))))), (1, .inl f)]) (st' := [.inl 0]) (m' := m63) (o := none) rfl trivial ?_
      refine ww_if (t := 70) rfl rfl (by decide) (fun (h72 : (0 : Int) ≠ 0) => absurd h72 (by decide)) (fun (h72 : ¬ ((0 : Int) ≠ 0)) => ?_)
      show wW (zK sc) zM236 68 [(4, .inl 0), (3, .inl 0), (2, .inl 1), (0, .inr (.inr (.inl (some (34, 0))))), (1, .inl f)] [] _ _ _
      refine ww_go 1 (pc' := 69) (L' := [(4, .inl 0), (3, .inl 0), (2, .inl 1), (0, .inr (.inr (.inl (some (34, 0))))), (1, .inl f)]) (st' := [.inl 0]) (m' := m63) (o := none) rfl trivial ?_
      have zf73 : ∀ q, zFR m56 q = zFR m0 q := by rw [hm56]; exact fun q => rfl
      have zf74 : ∀ q, zFR m63 q = zFR m0 q := fun q => (zFR_o (to := q + 1) hGm56 hEm63 (fun k i j z => by have z9 : (k = 34 ∧ j = 0) := z; omega) (by omega)).trans (zf73 q)
      have zv75 : m56.1 37 0 = m0.1 37 0 := by rw [hm56]; exact rfl
      have zv76 : m63.1 37 0 = m0.1 37 0 := Eq.trans (by funext j; exact (hEm63 37 0 j (show ¬ ((37 = 34 ∧ j = 0)) from by omega)).1) (zv75)
      exact ww_rB rfl rfl (by omega) ⟨_, rfl, rfl, zB_mono hGm63 (by omega), hFm63, ⟨by omega, by omega, Or.inl ⟨by omega, by omega, zv76, zf74⟩⟩⟩
set_option maxRecDepth 8000 in
/-- Mo.told -/
theorem zs252 {sc : xSc} {n : Nat × Nat} {m0 : wm} {c : Int} (hc : 0 ≤ c ∧ c ≤ 1000000) (q : Int) (a : Int) (b : Int) (hG : zB c m0) (h0 : 0 ≤ q ∧ q ≤ 5 ∧ 0 ≤ a ∧ a ≤ 727 ∧ 0 ≤ b ∧ b ≤ 255) : wX (zK sc) 252 [.inr (.inr (.inl (some (34, 0)))), .inl q, .inl a, .inl b] n m0 (wr (fun vv n1 m1 => ∃ r : Int, vv = some (.inl r) ∧ n = n1 ∧ zB c m1 ∧ zfr (fun k i j => (k = 45)) m0 m1 ∧ (r = a + 1))) := by
  refine wX_of (N := zM252) rfl (Nat.le_of_ble_eq_true rfl) ?_
  show wW (zK sc) zM252 0 [(0, .inr (.inr (.inl (some (34, 0))))), (1, .inl q), (2, .inl a), (3, .inl b)] [] n m0 _
  have hF : zfr (fun k i j => (k = 45)) m0 m0 := zfr_rf
  refine ww_go 9 (pc' := 13) (L' := [(0, .inr (.inr (.inl (some (34, 0))))), (1, .inl q), (2, .inl a), (3, .inl b)]) (st' := []) (m' := wuI m0 45 0 (((728 * q) + a).toNat) b) (o := some ((0 < 1) ∧ (0 < 1 ∧ 0 ≤ (728 * q) + a ∧ (728 * q) + a < ((4368 : Nat) : Int)))) rfl (show (0 < 1) ∧ (0 < 1 ∧ 0 ≤ (728 * q) + a ∧ (728 * q) + a < ((4368 : Nat) : Int)) from by omega) ?_
  obtain ⟨m1, hm1⟩ : ∃ zq9 : wm, zq9 = wuI m0 45 0 (((728 * q) + a).toNat) b := ⟨_, rfl⟩
  rw [← hm1]
  have hGm1 : zB c m1 := by rw [hm1]; exact zB_wI rfl (show 0 ≤ b ∧ b ≤ 255 from by omega) hG
  have hFm1 : zfr (fun k i j => (k = 45)) m0 m1 := by rw [hm1]; exact zfr_wI hF (show (45 = 45) from rfl)
  have s2 : m1.1 45 0 (((728 * q) + a).toNat) = b := by rw [hm1]; exact wuI_self
  refine ww_go 3 (pc' := 16) (L' := [(0, .inr (.inr (.inl (some (34, 0))))), (1, .inl q), (2, .inl a), (3, .inl b)]) (st' := [.inl (a + 1)]) (m' := m1) (o := none) rfl trivial ?_
  exact ww_rI rfl rfl ⟨_, rfl, rfl, zB_mono hGm1 (by omega), hFm1, by omega⟩
set_option maxRecDepth 8000 in
theorem zs221_l47 {sc : xSc} {n : Nat × Nat} {m0 : wm} {c : Int} (hc : 0 ≤ c ∧ c ≤ 1000000) (f : Int) (q : Int) (x : Int) (hG : zB c m0) (h0 : 0 ≤ f ∧ f ≤ 1 ∧ 0 ≤ q ∧ q ≤ 5 ∧ 0 ≤ x ∧ x ≤ 1000) : ∀ (d : Nat), (∀ (a : Int) (g : Int) (m : wm), (12 - g).toNat * 1000 + 999 = d → zB c m → zfr (fun k i j => (k = 45) ∨ (k = 44)) m0 m → (0 ≤ f ∧ f ≤ 1 ∧ 0 ≤ q ∧ q ≤ 5 ∧ 6 * f ≤ g ∧ g ≤ 6 * f + m0.1 37 0 f.toNat ∧ 3 ≤ a ∧ a ≤ 3 + 16 * (g - 6 * f) ∧ m.1 37 0 f.toNat = m0.1 37 0 f.toNat) →  wW (zK sc) zM221 47 [(0, .inr (.inr (.inl (some (34, 0))))), (1, .inl f), (2, .inl q), (4, .inl a), (5, .inl g)] [] n m (wr (fun vv n1 m1 => vv = none ∧ n = n1 ∧ zB c m1 ∧ zfr (fun k i j => (k = 45) ∨ (k = 44)) m0 m1 ∧ True))) ∧ (∀ (a : Int) (g : Int) (k : Int) (m : wm), (12 - g).toNat * 1000 + 800 + (6 - k).toNat = d → zB c m → zfr (fun k i j => (k = 45) ∨ (k = 44)) m0 m → (0 ≤ f ∧ f ≤ 1 ∧ 0 ≤ q ∧ q ≤ 5 ∧ 6 * f ≤ g ∧ g < 6 * f + m0.1 37 0 f.toNat ∧ 0 ≤ k ∧ k ≤ 6 ∧ 3 ≤ a ∧ a ≤ 4 + 16 * (g - 6 * f) + k ∧ m.1 37 0 f.toNat = m0.1 37 0 f.toNat) →  wW (zK sc) zM221 82 [(0, .inr (.inr (.inl (some (34, 0))))), (1, .inl f), (2, .inl q), (4, .inl a), (5, .inl g), (6, .inl k)] [] n m (wr (fun vv n1 m1 => vv = none ∧ n = n1 ∧ zB c m1 ∧ zfr (fun k i j => (k = 45) ∨ (k = 44)) m0 m1 ∧ True))) ∧ (∀ (a : Int) (g : Int) (h : Int64) (k : Int) (m : wm), (12 - g).toNat * 1000 + 500 + (96 - k).toNat = d → zB c m → zfr (fun k i j => (k = 45) ∨ (k = 44)) m0 m → (0 ≤ f ∧ f ≤ 1 ∧ 0 ≤ q ∧ q ≤ 5 ∧ 6 * f ≤ g ∧ g < 6 * f + m0.1 37 0 f.toNat ∧ 0 ≤ k ∧ k ≤ 96 ∧ 3 ≤ a ∧ a ≤ 11 + 16 * (g - 6 * f) ∧ m.1 37 0 f.toNat = m0.1 37 0 f.toNat) →  wW (zK sc) zM221 146 [(0, .inr (.inr (.inl (some (34, 0))))), (1, .inl f), (2, .inl q), (4, .inl a), (5, .inl g), (6, .inr (.inl h)), (8, .inl k)] [] n m (wr (fun vv n1 m1 => vv = none ∧ n = n1 ∧ zB c m1 ∧ zfr (fun k i j => (k = 45) ∨ (k = 44)) m0 m1 ∧ True))) ∧ (∀ (a : Int) (g : Int) (h : Int64) (k : Int) (m : wm), (12 - g).toNat * 1000 + (k + 8).toNat = d → zB c m → zfr (fun k i j => (k = 45) ∨ (k = 44)) m0 m → (0 ≤ f ∧ f ≤ 1 ∧ 0 ≤ q ∧ q ≤ 5 ∧ 6 * f ≤ g ∧ g < 6 * f + m0.1 37 0 f.toNat ∧ -8 ≤ k ∧ k ≤ 56 ∧ k % 8 = 0 ∧ 3 ≤ a ∧ a ≤ 11 + 16 * (g - 6 * f) + (56 - k) / 8 ∧ m.1 37 0 f.toNat = m0.1 37 0 f.toNat) →  wW (zK sc) zM221 188 [(0, .inr (.inr (.inl (some (34, 0))))), (1, .inl f), (2, .inl q), (4, .inl a), (5, .inl g), (6, .inr (.inl h)), (8, .inl k)] [] n m (wr (fun vv n1 m1 => vv = none ∧ n = n1 ∧ zB c m1 ∧ zfr (fun k i j => (k = 45) ∨ (k = 44)) m0 m1 ∧ True))) := by
  intro d
  induction d using Nat.strongRecOn with
  | ind d ih =>
    refine ⟨?_, ?_, ?_, ?_⟩
    · intro a g m hd hGm hFm hi
      have bf : 0 ≤ m0.1 37 0 f.toNat ∧ m0.1 37 0 f.toNat ≤ 6 := hG.1 37 _ rfl _ _
      have b1 : 0 ≤ m.1 37 0 f.toNat ∧ m.1 37 0 f.toNat ≤ 6 := hGm.1 37 _ rfl _ _
      refine ww_go 9 (pc' := 60) (L' := [(0, .inr (.inr (.inl (some (34, 0))))), (1, .inl f), (2, .inl q), (4, .inl a), (5, .inl g)]) (st' := [.inl ((6 * f) + (m.1 37 0 f.toNat)), .inl g]) (m' := m) (o := some ((0 < 1) ∧ (0 < 1 ∧ 0 ≤ f ∧ f < ((2 : Nat) : Int)))) rfl (show (0 < 1) ∧ (0 < 1 ∧ 0 ≤ f ∧ f < ((2 : Nat) : Int)) from by omega) ?_
      refine ww_ic (t := 224) rfl rfl (by omega) (fun (h2 : (6 * f) + (m.1 37 0 f.toNat) ≤ g) => ?_) (fun (h2 : ¬ ((6 * f) + (m.1 37 0 f.toNat) ≤ g)) => ?_)
      · show wW (zK sc) zM221 224 [(0, .inr (.inr (.inl (some (34, 0))))), (1, .inl f), (2, .inl q), (4, .inl a), (5, .inl g)] [] _ _ _
        refine ww_go 7 (pc' := 235) (L' := [(0, .inr (.inr (.inl (some (34, 0))))), (1, .inl f), (2, .inl q), (4, .inl a), (5, .inl g)]) (st' := []) (m' := wuI m 44 0 ((7 * q).toNat) a) (o := some ((0 < 1) ∧ (0 < 1 ∧ 0 ≤ 7 * q ∧ 7 * q < ((42 : Nat) : Int)))) rfl (show (0 < 1) ∧ (0 < 1 ∧ 0 ≤ 7 * q ∧ 7 * q < ((42 : Nat) : Int)) from by omega) ?_
        obtain ⟨m3, hm3⟩ : ∃ zq9 : wm, zq9 = wuI m 44 0 ((7 * q).toNat) a := ⟨_, rfl⟩
        rw [← hm3]
        have hGm3 : zB c m3 := by rw [hm3]; exact zB_wI rfl (show 0 ≤ a ∧ a ≤ 104 from by omega) hGm
        have hFm3 : zfr (fun k i j => (k = 45) ∨ (k = 44)) m0 m3 := by rw [hm3]; exact zfr_wI hFm (show (44 = 45) ∨ (44 = 44) from Or.inr (rfl))
        have s4 : m3.1 44 0 ((7 * q).toNat) = a := by rw [hm3]; exact wuI_self
        have w5 : m3.1 37 0 f.toNat = m.1 37 0 f.toNat := by rw [hm3]; rfl
        exact ww_rV rfl rfl ⟨rfl, rfl, zB_mono hGm3 (by omega), hFm3, by trivial⟩
      · show wW (zK sc) zM221 63 [(0, .inr (.inr (.inl (some (34, 0))))), (1, .inl f), (2, .inl q), (4, .inl a), (5, .inl g)] [] _ _ _
        have b6 : 0 ≤ m.1 38 0 g.toNat ∧ m.1 38 0 g.toNat ≤ 6 := hGm.1 38 _ rfl _ _
        refine ww_go 7 (pc' := 74) (L' := [(0, .inr (.inr (.inl (some (34, 0))))), (1, .inl f), (2, .inl q), (4, .inl a), (5, .inl g)]) (st' := [.inl (m.1 38 0 g.toNat), .inl a, .inl q, .inr (.inr (.inl (some (34, 0))))]) (m' := m) (o := some ((0 < 1) ∧ (0 < 1 ∧ 0 ≤ g ∧ g < ((12 : Nat) : Int)))) rfl (show (0 < 1) ∧ (0 < 1 ∧ 0 ≤ g ∧ g < ((12 : Nat) : Int)) from by omega) ?_
        refine ww_call (vs := [.inr (.inr (.inl (some (34, 0)))), .inl q, .inl a, .inl (m.1 38 0 g.toNat)]) (r := []) (p := 0 < 1) rfl rfl rfl rfl (show 0 < 1 from by omega) (zs252 (c := c) (by omega) q a (m.1 38 0 g.toNat) hGm (by omega)) ?_
        rintro _ _ m9 ⟨r7, rfl, rfl, hGm9, hEm9, hr8⟩
        have hFm9 : zfr (fun k i j => (k = 45) ∨ (k = 44)) m0 m9 := zfr_tr hFm hEm9 (fun k i j z => Or.inl z)
        have w10 : m9.1 37 0 f.toNat = m.1 37 0 f.toNat := (hEm9 37 0 f.toNat (show ¬ ((37 = 45)) from by omega)).1
        show wW (zK sc) zM221 77 [(0, .inr (.inr (.inl (some (34, 0))))), (1, .inl f), (2, .inl q), (4, .inl a), (5, .inl g)] [.inl r7] _ _ _
        refine ww_go 3 (pc' := 82) (L' := [(6, .inl 0), (4, .inl r7), (0, .inr (.inr (.inl (some (34, 0))))), (1, .inl f), (2, .inl q), (5, .inl g)]) (st' := []) (m' := m9) (o := none) rfl trivial ?_
        refine ww_sub (L := [(0, .inr (.inr (.inl (some (34, 0))))), (1, .inl f), (2, .inl q), (4, .inl r7), (5, .inl g), (6, .inl 0)]) ⟨rfl, rfl, rfl, rfl, rfl, rfl, trivial⟩ rfl rfl ?_
        exact (ih _ (by omega)).2.1 r7 g 0 m9 rfl (zB_mono hGm9 (by omega)) hFm9 (by omega)
    · intro a g k m hd hGm hFm hi
      have bf : 0 ≤ m0.1 37 0 f.toNat ∧ m0.1 37 0 f.toNat ≤ 6 := hG.1 37 _ rfl _ _
      have b1 : 0 ≤ m.1 38 0 g.toNat ∧ m.1 38 0 g.toNat ≤ 6 := hGm.1 38 _ rfl _ _
      refine ww_go 5 (pc' := 91) (L' := [(0, .inr (.inr (.inl (some (34, 0))))), (1, .inl f), (2, .inl q), (4, .inl a), (5, .inl g), (6, .inl k)]) (st' := [.inl (m.1 38 0 g.toNat), .inl k]) (m' := m) (o := some ((0 < 1) ∧ (0 < 1 ∧ 0 ≤ g ∧ g < ((12 : Nat) : Int)))) rfl (show (0 < 1) ∧ (0 < 1 ∧ 0 ≤ g ∧ g < ((12 : Nat) : Int)) from by omega) ?_
      refine ww_ic (t := 122) rfl rfl (by omega) (fun (h2 : m.1 38 0 g.toNat ≤ k) => ?_) (fun (h2 : ¬ (m.1 38 0 g.toNat ≤ k)) => ?_)
      · show wW (zK sc) zM221 122 [(0, .inr (.inr (.inl (some (34, 0))))), (1, .inl f), (2, .inl q), (4, .inl a), (5, .inl g), (6, .inl k)] [] _ _ _
        have b3 : 0 ≤ m.1 40 0 g.toNat ∧ m.1 40 0 g.toNat ≤ 96 := hGm.1 40 _ rfl _ _
        refine ww_go 7 (pc' := 133) (L' := [(0, .inr (.inr (.inl (some (34, 0))))), (1, .inl f), (2, .inl q), (4, .inl a), (5, .inl g), (6, .inl k)]) (st' := [.inl (m.1 40 0 g.toNat), .inl a, .inl q, .inr (.inr (.inl (some (34, 0))))]) (m' := m) (o := some ((0 < 1) ∧ (0 < 1 ∧ 0 ≤ g ∧ g < ((12 : Nat) : Int)))) rfl (show (0 < 1) ∧ (0 < 1 ∧ 0 ≤ g ∧ g < ((12 : Nat) : Int)) from by omega) ?_
        refine ww_call (vs := [.inr (.inr (.inl (some (34, 0)))), .inl q, .inl a, .inl (m.1 40 0 g.toNat)]) (r := []) (p := 0 < 1) rfl rfl rfl rfl (show 0 < 1 from by omega) (zs252 (c := c) (by omega) q a (m.1 40 0 g.toNat) hGm (by omega)) ?_
        rintro _ _ m6 ⟨r4, rfl, rfl, hGm6, hEm6, hr5⟩
        have hFm6 : zfr (fun k i j => (k = 45) ∨ (k = 44)) m0 m6 := zfr_tr hFm hEm6 (fun k i j z => Or.inl z)
        have w7 : m6.1 37 0 f.toNat = m.1 37 0 f.toNat := (hEm6 37 0 f.toNat (show ¬ ((37 = 45)) from by omega)).1
        show wW (zK sc) zM221 136 [(0, .inr (.inr (.inl (some (34, 0))))), (1, .inl f), (2, .inl q), (4, .inl a), (5, .inl g), (6, .inl k)] [.inl r4] _ _ _
        refine ww_go 1 (pc' := 138) (L' := [(4, .inl r4), (0, .inr (.inr (.inl (some (34, 0))))), (1, .inl f), (2, .inl q), (5, .inl g), (6, .inl k)]) (st' := []) (m' := m6) (o := none) rfl trivial ?_
        refine ww_call (vs := []) (r := []) (p := True) rfl rfl rfl rfl trivial (zs181 ) ?_
        rintro _ _ _ ⟨r8, rfl, rfl, rfl, hr9⟩
        show wW (zK sc) zM221 141 [(4, .inl r4), (0, .inr (.inr (.inl (some (34, 0))))), (1, .inl f), (2, .inl q), (5, .inl g), (6, .inl k)] [.inr (.inl r8)] _ _ _
        refine ww_go 3 (pc' := 146) (L' := [(8, .inl 0), (6, .inr (.inl r8)), (4, .inl r4), (0, .inr (.inr (.inl (some (34, 0))))), (1, .inl f), (2, .inl q), (5, .inl g)]) (st' := []) (m' := m6) (o := none) rfl trivial ?_
        refine ww_sub (L := [(0, .inr (.inr (.inl (some (34, 0))))), (1, .inl f), (2, .inl q), (4, .inl r4), (5, .inl g), (6, .inr (.inl r8)), (8, .inl 0)]) ⟨rfl, rfl, rfl, rfl, rfl, rfl, rfl, trivial⟩ rfl rfl ?_
        exact (ih _ (by omega)).2.2.1 r4 g r8 0 m6 rfl (zB_mono hGm6 (by omega)) hFm6 (by omega)
      · show wW (zK sc) zM221 94 [(0, .inr (.inr (.inl (some (34, 0))))), (1, .inl f), (2, .inl q), (4, .inl a), (5, .inl g), (6, .inl k)] [] _ _ _
        have b10 : 0 ≤ m.1 39 0 (((6 * g) + k).toNat) ∧ m.1 39 0 (((6 * g) + k).toNat) ≤ 255 := hGm.1 39 _ rfl _ _
        refine ww_go 11 (pc' := 111) (L' := [(0, .inr (.inr (.inl (some (34, 0))))), (1, .inl f), (2, .inl q), (4, .inl a), (5, .inl g), (6, .inl k)]) (st' := [.inl (m.1 39 0 (((6 * g) + k).toNat)), .inl a, .inl q, .inr (.inr (.inl (some (34, 0))))]) (m' := m) (o := some ((0 < 1) ∧ (0 < 1 ∧ 0 ≤ (6 * g) + k ∧ (6 * g) + k < ((72 : Nat) : Int)))) rfl (show (0 < 1) ∧ (0 < 1 ∧ 0 ≤ (6 * g) + k ∧ (6 * g) + k < ((72 : Nat) : Int)) from by omega) ?_
        refine ww_call (vs := [.inr (.inr (.inl (some (34, 0)))), .inl q, .inl a, .inl (m.1 39 0 (((6 * g) + k).toNat))]) (r := []) (p := 0 < 1) rfl rfl rfl rfl (show 0 < 1 from by omega) (zs252 (c := c) (by omega) q a (m.1 39 0 (((6 * g) + k).toNat)) hGm (by omega)) ?_
        rintro _ _ m13 ⟨r11, rfl, rfl, hGm13, hEm13, hr12⟩
        have hFm13 : zfr (fun k i j => (k = 45) ∨ (k = 44)) m0 m13 := zfr_tr hFm hEm13 (fun k i j z => Or.inl z)
        have w14 : m13.1 37 0 f.toNat = m.1 37 0 f.toNat := (hEm13 37 0 f.toNat (show ¬ ((37 = 45)) from by omega)).1
        show wW (zK sc) zM221 114 [(0, .inr (.inr (.inl (some (34, 0))))), (1, .inl f), (2, .inl q), (4, .inl a), (5, .inl g), (6, .inl k)] [.inl r11] _ _ _
        refine ww_go 3 (pc' := 82) (L' := [(6, .inl (k + 1)), (4, .inl r11), (0, .inr (.inr (.inl (some (34, 0))))), (1, .inl f), (2, .inl q), (5, .inl g)]) (st' := []) (m' := m13) (o := none) rfl trivial ?_
        refine ww_sub (L := [(0, .inr (.inr (.inl (some (34, 0))))), (1, .inl f), (2, .inl q), (4, .inl r11), (5, .inl g), (6, .inl (k + 1))]) ⟨rfl, rfl, rfl, rfl, rfl, rfl, trivial⟩ rfl rfl ?_
        exact (ih _ (by omega)).2.1 r11 g (k + 1) m13 rfl (zB_mono hGm13 (by omega)) hFm13 (by omega)
    · intro a g h k m hd hGm hFm hi
      have bf : 0 ≤ m0.1 37 0 f.toNat ∧ m0.1 37 0 f.toNat ≤ 6 := hG.1 37 _ rfl _ _
      have b1 : 0 ≤ m.1 40 0 g.toNat ∧ m.1 40 0 g.toNat ≤ 96 := hGm.1 40 _ rfl _ _
      refine ww_go 5 (pc' := 155) (L' := [(0, .inr (.inr (.inl (some (34, 0))))), (1, .inl f), (2, .inl q), (4, .inl a), (5, .inl g), (6, .inr (.inl h)), (8, .inl k)]) (st' := [.inl (m.1 40 0 g.toNat), .inl k]) (m' := m) (o := some ((0 < 1) ∧ (0 < 1 ∧ 0 ≤ g ∧ g < ((12 : Nat) : Int)))) rfl (show (0 < 1) ∧ (0 < 1 ∧ 0 ≤ g ∧ g < ((12 : Nat) : Int)) from by omega) ?_
      refine ww_ic (t := 184) rfl rfl (by omega) (fun (h2 : m.1 40 0 g.toNat ≤ k) => ?_) (fun (h2 : ¬ (m.1 40 0 g.toNat ≤ k)) => ?_)
      · show wW (zK sc) zM221 184 [(0, .inr (.inr (.inl (some (34, 0))))), (1, .inl f), (2, .inl q), (4, .inl a), (5, .inl g), (6, .inr (.inl h)), (8, .inl k)] [] _ _ _
        refine ww_go 2 (pc' := 188) (L' := [(8, .inl 56), (0, .inr (.inr (.inl (some (34, 0))))), (1, .inl f), (2, .inl q), (4, .inl a), (5, .inl g), (6, .inr (.inl h))]) (st' := []) (m' := m) (o := none) rfl trivial ?_
        refine ww_sub (L := [(0, .inr (.inr (.inl (some (34, 0))))), (1, .inl f), (2, .inl q), (4, .inl a), (5, .inl g), (6, .inr (.inl h)), (8, .inl 56)]) ⟨rfl, rfl, rfl, rfl, rfl, rfl, rfl, trivial⟩ rfl rfl ?_
        exact (ih _ (by omega)).2.2.2 a g h 56 m rfl (zB_mono hGm (by omega)) hFm (by omega)
      · show wW (zK sc) zM221 158 [(0, .inr (.inr (.inl (some (34, 0))))), (1, .inl f), (2, .inl q), (4, .inl a), (5, .inl g), (6, .inr (.inl h)), (8, .inl k)] [] _ _ _
        have b3 : 0 ≤ m.1 41 0 (((96 * g) + k).toNat) ∧ m.1 41 0 (((96 * g) + k).toNat) ≤ 255 := hGm.1 41 _ rfl _ _
        refine ww_go 9 (pc' := 173) (L' := [(0, .inr (.inr (.inl (some (34, 0))))), (1, .inl f), (2, .inl q), (4, .inl a), (5, .inl g), (6, .inr (.inl h)), (8, .inl k)]) (st' := [.inl (m.1 41 0 (((96 * g) + k).toNat)), .inr (.inl h)]) (m' := m) (o := some ((0 < 1) ∧ (0 < 1 ∧ 0 ≤ (96 * g) + k ∧ (96 * g) + k < ((1152 : Nat) : Int)))) rfl (show (0 < 1) ∧ (0 < 1 ∧ 0 ≤ (96 * g) + k ∧ (96 * g) + k < ((1152 : Nat) : Int)) from by omega) ?_
        refine ww_call (vs := [.inr (.inl h), .inl (m.1 41 0 (((96 * g) + k).toNat))]) (r := []) (p := True) rfl rfl rfl rfl trivial (zs223 h (m.1 41 0 (((96 * g) + k).toNat))) ?_
        rintro _ _ _ ⟨r4, rfl, rfl, rfl, hr5⟩
        show wW (zK sc) zM221 176 [(0, .inr (.inr (.inl (some (34, 0))))), (1, .inl f), (2, .inl q), (4, .inl a), (5, .inl g), (6, .inr (.inl h)), (8, .inl k)] [.inr (.inl r4)] _ _ _
        refine ww_go 3 (pc' := 146) (L' := [(8, .inl (k + 1)), (6, .inr (.inl r4)), (0, .inr (.inr (.inl (some (34, 0))))), (1, .inl f), (2, .inl q), (4, .inl a), (5, .inl g)]) (st' := []) (m' := m) (o := none) rfl trivial ?_
        refine ww_sub (L := [(0, .inr (.inr (.inl (some (34, 0))))), (1, .inl f), (2, .inl q), (4, .inl a), (5, .inl g), (6, .inr (.inl r4)), (8, .inl (k + 1))]) ⟨rfl, rfl, rfl, rfl, rfl, rfl, rfl, trivial⟩ rfl rfl ?_
        exact (ih _ (by omega)).2.2.1 a g r4 (k + 1) m rfl (zB_mono hGm (by omega)) hFm (by omega)
    · intro a g h k m hd hGm hFm hi
      have bf : 0 ≤ m0.1 37 0 f.toNat ∧ m0.1 37 0 f.toNat ≤ 6 := hG.1 37 _ rfl _ _
      refine ww_go 1 (pc' := 190) (L' := [(0, .inr (.inr (.inl (some (34, 0))))), (1, .inl f), (2, .inl q), (4, .inl a), (5, .inl g), (6, .inr (.inl h)), (8, .inl k)]) (st' := [.inl k]) (m' := m) (o := none) rfl trivial ?_
      refine ww_if (t := 218) rfl rfl (by omega) (fun (h1 : k < 0) => ?_) (fun (h1 : ¬ (k < 0)) => ?_)
      · show wW (zK sc) zM221 218 [(0, .inr (.inr (.inl (some (34, 0))))), (1, .inl f), (2, .inl q), (4, .inl a), (5, .inl g), (6, .inr (.inl h)), (8, .inl k)] [] _ _ _
        refine ww_go 2 (pc' := 47) (L' := [(5, .inl (g + 1)), (0, .inr (.inr (.inl (some (34, 0))))), (1, .inl f), (2, .inl q), (4, .inl a), (6, .inr (.inl h)), (8, .inl k)]) (st' := []) (m' := m) (o := none) rfl trivial ?_
        refine ww_sub (L := [(0, .inr (.inr (.inl (some (34, 0))))), (1, .inl f), (2, .inl q), (4, .inl a), (5, .inl (g + 1))]) ⟨rfl, rfl, rfl, rfl, rfl, trivial⟩ rfl rfl ?_
        exact (ih _ (by omega)).1 a (g + 1) m rfl (zB_mono hGm (by omega)) hFm (by omega)
      · show wW (zK sc) zM221 193 [(0, .inr (.inr (.inl (some (34, 0))))), (1, .inl f), (2, .inl q), (4, .inl a), (5, .inl g), (6, .inr (.inl h)), (8, .inl k)] [] _ _ _
        have t2 := wl2i_rg ((h >>> (wi2l k &&& 63)) &&& (Int64.ofInt 255))
        have t3 := wl2i_255 (h >>> (wi2l k &&& 63))
        refine ww_go 9 (pc' := 207) (L' := [(0, .inr (.inr (.inl (some (34, 0))))), (1, .inl f), (2, .inl q), (4, .inl a), (5, .inl g), (6, .inr (.inl h)), (8, .inl k)]) (st' := [.inl (wl2i ((h >>> (wi2l k &&& 63)) &&& (Int64.ofInt 255))), .inl a, .inl q, .inr (.inr (.inl (some (34, 0))))]) (m' := m) (o := none) rfl trivial ?_
        refine ww_call (vs := [.inr (.inr (.inl (some (34, 0)))), .inl q, .inl a, .inl (wl2i ((h >>> (wi2l k &&& 63)) &&& (Int64.ofInt 255)))]) (r := []) (p := 0 < 1) rfl rfl rfl rfl (show 0 < 1 from by omega) (zs252 (c := c) (by omega) q a (wl2i ((h >>> (wi2l k &&& 63)) &&& (Int64.ofInt 255))) hGm (by omega)) ?_
        rintro _ _ m6 ⟨r4, rfl, rfl, hGm6, hEm6, hr5⟩
        have hFm6 : zfr (fun k i j => (k = 45) ∨ (k = 44)) m0 m6 := zfr_tr hFm hEm6 (fun k i j z => Or.inl z)
        have w7 : m6.1 37 0 f.toNat = m.1 37 0 f.toNat := (hEm6 37 0 f.toNat (show ¬ ((37 = 45)) from by omega)).1
        show wW (zK sc) zM221 210 [(0, .inr (.inr (.inl (some (34, 0))))), (1, .inl f), (2, .inl q), (4, .inl a), (5, .inl g), (6, .inr (.inl h)), (8, .inl k)] [.inl r4] _ _ _
        refine ww_go 3 (pc' := 188) (L' := [(8, .inl (k + (-8))), (4, .inl r4), (0, .inr (.inr (.inl (some (34, 0))))), (1, .inl f), (2, .inl q), (5, .inl g), (6, .inr (.inl h))]) (st' := []) (m' := m6) (o := none) rfl trivial ?_
        refine ww_sub (L := [(0, .inr (.inr (.inl (some (34, 0))))), (1, .inl f), (2, .inl q), (4, .inl r4), (5, .inl g), (6, .inr (.inl h)), (8, .inl (k + (-8)))]) ⟨rfl, rfl, rfl, rfl, rfl, rfl, rfl, trivial⟩ rfl rfl ?_
        exact (ih _ (by omega)).2.2.2 r4 g h (k + (-8)) m6 rfl (zB_mono hGm6 (by omega)) hFm6 (by omega)
set_option maxRecDepth 8000 in
/-- Mo.manifest -/
theorem zs221 {sc : xSc} {n : Nat × Nat} {m0 : wm} {c : Int} (hc : 0 ≤ c ∧ c ≤ 1000000) (f : Int) (q : Int) (x : Int) (hG : zB c m0) (h0 : 0 ≤ f ∧ f ≤ 1 ∧ 0 ≤ q ∧ q ≤ 5 ∧ 0 ≤ x ∧ x ≤ 1000) : wX (zK sc) 221 [.inr (.inr (.inl (some (34, 0)))), .inl f, .inl q, .inl x] n m0 (wr (fun vv n1 m1 => vv = none ∧ n = n1 ∧ zB c m1 ∧ zfr (fun k i j => (k = 45) ∨ (k = 44)) m0 m1 ∧ True)) := by
  refine wX_of (N := zM221) rfl (Nat.le_of_ble_eq_true rfl) ?_
  show wW (zK sc) zM221 0 [(0, .inr (.inr (.inl (some (34, 0))))), (1, .inl f), (2, .inl q), (3, .inl x)] [] n m0 _
  have hF : zfr (fun k i j => (k = 45) ∨ (k = 44)) m0 m0 := zfr_rf
  have bf : 0 ≤ m0.1 37 0 f.toNat ∧ m0.1 37 0 f.toNat ≤ 6 := hG.1 37 _ rfl _ _
  have t1 := wshr_rg x 8
  have t2 := wshr_k8 (X := x)
  refine ww_go 6 (pc' := 7) (L' := [(0, .inr (.inr (.inl (some (34, 0))))), (1, .inl f), (2, .inl q), (3, .inl x)]) (st' := [.inl (wshr x 8), .inl 0, .inl q, .inr (.inr (.inl (some (34, 0))))]) (m' := m0) (o := none) rfl trivial ?_
  refine ww_call (vs := [.inr (.inr (.inl (some (34, 0)))), .inl q, .inl 0, .inl (wshr x 8)]) (r := []) (p := 0 < 1) rfl rfl rfl rfl (show 0 < 1 from by omega) (zs252 (c := c) (by omega) q 0 (wshr x 8) hG (by omega)) ?_
  rintro _ _ m5 ⟨r3, rfl, rfl, hGm5, hEm5, hr4⟩
  have hFm5 : zfr (fun k i j => (k = 45) ∨ (k = 44)) m0 m5 := zfr_tr hF hEm5 (fun k i j z => Or.inl z)
  have w6 : m5.1 37 0 f.toNat = m0.1 37 0 f.toNat := (hEm5 37 0 f.toNat (show ¬ ((37 = 45)) from by omega)).1
  show wW (zK sc) zM221 10 [(0, .inr (.inr (.inl (some (34, 0))))), (1, .inl f), (2, .inl q), (3, .inl x)] [.inl r3] _ _ _
  have t7 := wand_rg x 255
  have t8 := wand_m255 x
  refine ww_go 7 (pc' := 21) (L' := [(4, .inl r3), (0, .inr (.inr (.inl (some (34, 0))))), (1, .inl f), (2, .inl q), (3, .inl x)]) (st' := [.inl (wand x 255), .inl r3, .inl q, .inr (.inr (.inl (some (34, 0))))]) (m' := m5) (o := none) rfl trivial ?_
  refine ww_call (vs := [.inr (.inr (.inl (some (34, 0)))), .inl q, .inl r3, .inl (wand x 255)]) (r := []) (p := 0 < 1) rfl rfl rfl rfl (show 0 < 1 from by omega) (zs252 (c := c) (by omega) q r3 (wand x 255) hGm5 (by omega)) ?_
  rintro _ _ m11 ⟨r9, rfl, rfl, hGm11, hEm11, hr10⟩
  have hFm11 : zfr (fun k i j => (k = 45) ∨ (k = 44)) m0 m11 := zfr_tr hFm5 hEm11 (fun k i j z => Or.inl z)
  have w12 : m11.1 37 0 f.toNat = m5.1 37 0 f.toNat := (hEm11 37 0 f.toNat (show ¬ ((37 = 45)) from by omega)).1
  show wW (zK sc) zM221 24 [(4, .inl r3), (0, .inr (.inr (.inl (some (34, 0))))), (1, .inl f), (2, .inl q), (3, .inl x)] [.inl r9] _ _ _
  have b13 : 0 ≤ m11.1 37 0 f.toNat ∧ m11.1 37 0 f.toNat ≤ 6 := hGm11.1 37 _ rfl _ _
  refine ww_go 8 (pc' := 36) (L' := [(4, .inl r9), (0, .inr (.inr (.inl (some (34, 0))))), (1, .inl f), (2, .inl q), (3, .inl x)]) (st' := [.inl (m11.1 37 0 f.toNat), .inl r9, .inl q, .inr (.inr (.inl (some (34, 0))))]) (m' := m11) (o := some ((0 < 1) ∧ (0 < 1 ∧ 0 ≤ f ∧ f < ((2 : Nat) : Int)))) rfl (show (0 < 1) ∧ (0 < 1 ∧ 0 ≤ f ∧ f < ((2 : Nat) : Int)) from by omega) ?_
  refine ww_call (vs := [.inr (.inr (.inl (some (34, 0)))), .inl q, .inl r9, .inl (m11.1 37 0 f.toNat)]) (r := []) (p := 0 < 1) rfl rfl rfl rfl (show 0 < 1 from by omega) (zs252 (c := c) (by omega) q r9 (m11.1 37 0 f.toNat) hGm11 (by omega)) ?_
  rintro _ _ m16 ⟨r14, rfl, rfl, hGm16, hEm16, hr15⟩
  have hFm16 : zfr (fun k i j => (k = 45) ∨ (k = 44)) m0 m16 := zfr_tr hFm11 hEm16 (fun k i j z => Or.inl z)
  have w17 : m16.1 37 0 f.toNat = m11.1 37 0 f.toNat := (hEm16 37 0 f.toNat (show ¬ ((37 = 45)) from by omega)).1
  show wW (zK sc) zM221 39 [(4, .inl r9), (0, .inr (.inr (.inl (some (34, 0))))), (1, .inl f), (2, .inl q), (3, .inl x)] [.inl r14] _ _ _
  refine ww_go 5 (pc' := 47) (L' := [(5, .inl (6 * f)), (4, .inl r14), (0, .inr (.inr (.inl (some (34, 0))))), (1, .inl f), (2, .inl q), (3, .inl x)]) (st' := []) (m' := m16) (o := none) rfl trivial ?_
  refine ww_sub (L := [(0, .inr (.inr (.inl (some (34, 0))))), (1, .inl f), (2, .inl q), (4, .inl r14), (5, .inl (6 * f))]) ⟨rfl, rfl, rfl, rfl, rfl, trivial⟩ rfl rfl ?_
  exact (zs221_l47 hc f q x hG h0 _).1 r14 (6 * f) m16 rfl (zB_mono hGm16 (by omega)) hFm16 (by omega)
