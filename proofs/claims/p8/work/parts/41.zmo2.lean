set_option maxRecDepth 8000 in
theorem zs224_l62 {sc : xSc} {n : Nat × Nat} {m0 : wm} {c : Int} (hc : 0 ≤ c ∧ c ≤ 1000000) (fr : Int) (to : Int) (hG : zB c m0) (h0 : 0 ≤ fr ∧ fr ≤ 11 ∧ 0 ≤ to ∧ to ≤ 11) : ∀ (d : Nat), ∀ (k : Int) (m : wm), (96 - k).toNat = d → zB c m → zfr (fun k i j => (k = 38) ∨ (k = 39) ∨ (k = 40) ∨ (k = 41)) m0 m → (0 ≤ k ∧ k ≤ 96) →  wW (zK sc) zM224 62 [(0, .inr (.inr (.inl (some (34, 0))))), (1, .inl fr), (2, .inl to), (3, .inl k)] [] n m (wr (fun vv n1 m1 => vv = none ∧ n = n1 ∧ zB c m1 ∧ zfr (fun k i j => (k = 38) ∨ (k = 39) ∨ (k = 40) ∨ (k = 41)) m0 m1 ∧ True)) := by
  intro d
  induction d using Nat.strongRecOn with
  | ind d ih =>
    intro k m hd hGm hFm hk
    refine ww_go 2 (pc' := 65) (L' := [(0, .inr (.inr (.inl (some (34, 0))))), (1, .inl fr), (2, .inl to), (3, .inl k)]) (st' := [.inl 96, .inl k]) (m' := m) (o := none) rfl trivial ?_
    refine ww_ic (t := 96) rfl rfl (by omega) (fun (h1 : 96 ≤ k) => ?_) (fun (h1 : ¬ (96 ≤ k)) => ?_)
    · show wW (zK sc) zM224 96 [(0, .inr (.inr (.inl (some (34, 0))))), (1, .inl fr), (2, .inl to), (3, .inl k)] [] _ _ _
      exact ww_rV rfl rfl ⟨rfl, rfl, zB_mono hGm (by omega), hFm, by trivial⟩
    · show wW (zK sc) zM224 68 [(0, .inr (.inr (.inl (some (34, 0))))), (1, .inl fr), (2, .inl to), (3, .inl k)] [] _ _ _
      have b2 : 0 ≤ m.1 41 0 (((96 * fr) + k).toNat) ∧ m.1 41 0 (((96 * fr) + k).toNat) ≤ 255 := hGm.1 41 _ rfl _ _
      refine ww_go 16 (pc' := 90) (L' := [(0, .inr (.inr (.inl (some (34, 0))))), (1, .inl fr), (2, .inl to), (3, .inl k)]) (st' := []) (m' := wuI m 41 0 (((96 * to) + k).toNat) (m.1 41 0 (((96 * fr) + k).toNat))) (o := some ((0 < 1) ∧ (0 < 1) ∧ (0 < 1 ∧ 0 ≤ (96 * fr) + k ∧ (96 * fr) + k < ((1152 : Nat) : Int)) ∧ (0 < 1 ∧ 0 ≤ (96 * to) + k ∧ (96 * to) + k < ((1152 : Nat) : Int)))) rfl (show (0 < 1) ∧ (0 < 1) ∧ (0 < 1 ∧ 0 ≤ (96 * fr) + k ∧ (96 * fr) + k < ((1152 : Nat) : Int)) ∧ (0 < 1 ∧ 0 ≤ (96 * to) + k ∧ (96 * to) + k < ((1152 : Nat) : Int)) from by omega) ?_
      obtain ⟨m3, hm3⟩ : ∃ zq9 : wm, zq9 = wuI m 41 0 (((96 * to) + k).toNat) (m.1 41 0 (((96 * fr) + k).toNat)) := ⟨_, rfl⟩
      rw [← hm3]
      have hGm3 : zB c m3 := by rw [hm3]; exact zB_wI rfl (show 0 ≤ m.1 41 0 (((96 * fr) + k).toNat) ∧ m.1 41 0 (((96 * fr) + k).toNat) ≤ 255 from by omega) hGm
      have hFm3 : zfr (fun k i j => (k = 38) ∨ (k = 39) ∨ (k = 40) ∨ (k = 41)) m0 m3 := by rw [hm3]; exact zfr_wI hFm (show (41 = 38) ∨ (41 = 39) ∨ (41 = 40) ∨ (41 = 41) from Or.inr (Or.inr (Or.inr (rfl))))
      have s4 : m3.1 41 0 (((96 * to) + k).toNat) = m.1 41 0 (((96 * fr) + k).toNat) := by rw [hm3]; exact wuI_self
      refine ww_go 2 (pc' := 62) (L' := [(3, .inl (k + 1)), (0, .inr (.inr (.inl (some (34, 0))))), (1, .inl fr), (2, .inl to)]) (st' := []) (m' := m3) (o := none) rfl trivial ?_
      refine ww_sub (L := [(0, .inr (.inr (.inl (some (34, 0))))), (1, .inl fr), (2, .inl to), (3, .inl (k + 1))]) ⟨rfl, rfl, rfl, rfl, trivial⟩ rfl rfl ?_
      exact (ih _ (by omega)) (k + 1) m3 rfl (zB_mono hGm3 (by omega)) hFm3 (by omega)
set_option maxRecDepth 8000 in
theorem zs224_l26 {sc : xSc} {n : Nat × Nat} {m0 : wm} {c : Int} (hc : 0 ≤ c ∧ c ≤ 1000000) (fr : Int) (to : Int) (hG : zB c m0) (h0 : 0 ≤ fr ∧ fr ≤ 11 ∧ 0 ≤ to ∧ to ≤ 11) : ∀ (d : Nat), ∀ (k : Int) (m : wm), (6 - k).toNat = d → zB c m → zfr (fun k i j => (k = 38) ∨ (k = 39) ∨ (k = 40) ∨ (k = 41)) m0 m → (0 ≤ k ∧ k ≤ 6) →  wW (zK sc) zM224 26 [(0, .inr (.inr (.inl (some (34, 0))))), (1, .inl fr), (2, .inl to), (3, .inl k)] [] n m (wr (fun vv n1 m1 => vv = none ∧ n = n1 ∧ zB c m1 ∧ zfr (fun k i j => (k = 38) ∨ (k = 39) ∨ (k = 40) ∨ (k = 41)) m0 m1 ∧ True)) := by
  intro d
  induction d using Nat.strongRecOn with
  | ind d ih =>
    intro k m hd hGm hFm hk
    refine ww_go 2 (pc' := 29) (L' := [(0, .inr (.inr (.inl (some (34, 0))))), (1, .inl fr), (2, .inl to), (3, .inl k)]) (st' := [.inl 6, .inl k]) (m' := m) (o := none) rfl trivial ?_
    refine ww_ic (t := 60) rfl rfl (by omega) (fun (h1 : 6 ≤ k) => ?_) (fun (h1 : ¬ (6 ≤ k)) => ?_)
    · show wW (zK sc) zM224 60 [(0, .inr (.inr (.inl (some (34, 0))))), (1, .inl fr), (2, .inl to), (3, .inl k)] [] _ _ _
      refine ww_go 2 (pc' := 62) (L' := [(3, .inl 0), (0, .inr (.inr (.inl (some (34, 0))))), (1, .inl fr), (2, .inl to)]) (st' := []) (m' := m) (o := none) rfl trivial ?_
      refine ww_sub (L := [(0, .inr (.inr (.inl (some (34, 0))))), (1, .inl fr), (2, .inl to), (3, .inl 0)]) ⟨rfl, rfl, rfl, rfl, trivial⟩ rfl rfl ?_
      exact (zs224_l62 hc fr to hG h0 _) 0 m rfl (zB_mono hGm (by omega)) hFm (by omega)
    · show wW (zK sc) zM224 32 [(0, .inr (.inr (.inl (some (34, 0))))), (1, .inl fr), (2, .inl to), (3, .inl k)] [] _ _ _
      have b2 : 0 ≤ m.1 39 0 (((6 * fr) + k).toNat) ∧ m.1 39 0 (((6 * fr) + k).toNat) ≤ 255 := hGm.1 39 _ rfl _ _
      refine ww_go 16 (pc' := 54) (L' := [(0, .inr (.inr (.inl (some (34, 0))))), (1, .inl fr), (2, .inl to), (3, .inl k)]) (st' := []) (m' := wuI m 39 0 (((6 * to) + k).toNat) (m.1 39 0 (((6 * fr) + k).toNat))) (o := some ((0 < 1) ∧ (0 < 1) ∧ (0 < 1 ∧ 0 ≤ (6 * fr) + k ∧ (6 * fr) + k < ((72 : Nat) : Int)) ∧ (0 < 1 ∧ 0 ≤ (6 * to) + k ∧ (6 * to) + k < ((72 : Nat) : Int)))) rfl (show (0 < 1) ∧ (0 < 1) ∧ (0 < 1 ∧ 0 ≤ (6 * fr) + k ∧ (6 * fr) + k < ((72 : Nat) : Int)) ∧ (0 < 1 ∧ 0 ≤ (6 * to) + k ∧ (6 * to) + k < ((72 : Nat) : Int)) from by omega) ?_
      obtain ⟨m3, hm3⟩ : ∃ zq9 : wm, zq9 = wuI m 39 0 (((6 * to) + k).toNat) (m.1 39 0 (((6 * fr) + k).toNat)) := ⟨_, rfl⟩
      rw [← hm3]
      have hGm3 : zB c m3 := by rw [hm3]; exact zB_wI rfl (show 0 ≤ m.1 39 0 (((6 * fr) + k).toNat) ∧ m.1 39 0 (((6 * fr) + k).toNat) ≤ 255 from by omega) hGm
      have hFm3 : zfr (fun k i j => (k = 38) ∨ (k = 39) ∨ (k = 40) ∨ (k = 41)) m0 m3 := by rw [hm3]; exact zfr_wI hFm (show (39 = 38) ∨ (39 = 39) ∨ (39 = 40) ∨ (39 = 41) from Or.inr (Or.inl rfl))
      have s4 : m3.1 39 0 (((6 * to) + k).toNat) = m.1 39 0 (((6 * fr) + k).toNat) := by rw [hm3]; exact wuI_self
      refine ww_go 2 (pc' := 26) (L' := [(3, .inl (k + 1)), (0, .inr (.inr (.inl (some (34, 0))))), (1, .inl fr), (2, .inl to)]) (st' := []) (m' := m3) (o := none) rfl trivial ?_
      refine ww_sub (L := [(0, .inr (.inr (.inl (some (34, 0))))), (1, .inl fr), (2, .inl to), (3, .inl (k + 1))]) ⟨rfl, rfl, rfl, rfl, trivial⟩ rfl rfl ?_
      exact (ih _ (by omega)) (k + 1) m3 rfl (zB_mono hGm3 (by omega)) hFm3 (by omega)
set_option maxRecDepth 8000 in
/-- Mo.move -/
theorem zs224 {sc : xSc} {n : Nat × Nat} {m0 : wm} {c : Int} (hc : 0 ≤ c ∧ c ≤ 1000000) (fr : Int) (to : Int) (hG : zB c m0) (h0 : 0 ≤ fr ∧ fr ≤ 11 ∧ 0 ≤ to ∧ to ≤ 11) : wX (zK sc) 224 [.inr (.inr (.inl (some (34, 0)))), .inl fr, .inl to] n m0 (wr (fun vv n1 m1 => vv = none ∧ n = n1 ∧ zB c m1 ∧ zfr (fun k i j => (k = 38) ∨ (k = 39) ∨ (k = 40) ∨ (k = 41)) m0 m1 ∧ True)) := by
  refine wX_of (N := zM224) rfl (Nat.le_of_ble_eq_true rfl) ?_
  show wW (zK sc) zM224 0 [(0, .inr (.inr (.inl (some (34, 0))))), (1, .inl fr), (2, .inl to)] [] n m0 _
  have hF : zfr (fun k i j => (k = 38) ∨ (k = 39) ∨ (k = 40) ∨ (k = 41)) m0 m0 := zfr_rf
  have b1 : 0 ≤ m0.1 38 0 fr.toNat ∧ m0.1 38 0 fr.toNat ≤ 6 := hG.1 38 _ rfl _ _
  refine ww_go 8 (pc' := 12) (L' := [(0, .inr (.inr (.inl (some (34, 0))))), (1, .inl fr), (2, .inl to)]) (st' := []) (m' := wuI m0 38 0 to.toNat (m0.1 38 0 fr.toNat)) (o := some ((0 < 1) ∧ (0 < 1) ∧ (0 < 1 ∧ 0 ≤ fr ∧ fr < ((12 : Nat) : Int)) ∧ (0 < 1 ∧ 0 ≤ to ∧ to < ((12 : Nat) : Int)))) rfl (show (0 < 1) ∧ (0 < 1) ∧ (0 < 1 ∧ 0 ≤ fr ∧ fr < ((12 : Nat) : Int)) ∧ (0 < 1 ∧ 0 ≤ to ∧ to < ((12 : Nat) : Int)) from by omega) ?_
  obtain ⟨m2, hm2⟩ : ∃ zq9 : wm, zq9 = wuI m0 38 0 to.toNat (m0.1 38 0 fr.toNat) := ⟨_, rfl⟩
  rw [← hm2]
  have hGm2 : zB c m2 := by rw [hm2]; exact zB_wI rfl (show 0 ≤ m0.1 38 0 fr.toNat ∧ m0.1 38 0 fr.toNat ≤ 6 from by omega) hG
  have hFm2 : zfr (fun k i j => (k = 38) ∨ (k = 39) ∨ (k = 40) ∨ (k = 41)) m0 m2 := by rw [hm2]; exact zfr_wI hF (show (38 = 38) ∨ (38 = 39) ∨ (38 = 40) ∨ (38 = 41) from Or.inl rfl)
  have s3 : m2.1 38 0 to.toNat = m0.1 38 0 fr.toNat := by rw [hm2]; exact wuI_self
  have b4 : 0 ≤ m2.1 40 0 fr.toNat ∧ m2.1 40 0 fr.toNat ≤ 96 := hGm2.1 40 _ rfl _ _
  refine ww_go 8 (pc' := 24) (L' := [(0, .inr (.inr (.inl (some (34, 0))))), (1, .inl fr), (2, .inl to)]) (st' := []) (m' := wuI m2 40 0 to.toNat (m2.1 40 0 fr.toNat)) (o := some ((0 < 1) ∧ (0 < 1) ∧ (0 < 1 ∧ 0 ≤ fr ∧ fr < ((12 : Nat) : Int)) ∧ (0 < 1 ∧ 0 ≤ to ∧ to < ((12 : Nat) : Int)))) rfl (show (0 < 1) ∧ (0 < 1) ∧ (0 < 1 ∧ 0 ≤ fr ∧ fr < ((12 : Nat) : Int)) ∧ (0 < 1 ∧ 0 ≤ to ∧ to < ((12 : Nat) : Int)) from by omega) ?_
  obtain ⟨m5, hm5⟩ : ∃ zq9 : wm, zq9 = wuI m2 40 0 to.toNat (m2.1 40 0 fr.toNat) := ⟨_, rfl⟩
  rw [← hm5]
  have hGm5 : zB c m5 := by rw [hm5]; exact zB_wI rfl (show 0 ≤ m2.1 40 0 fr.toNat ∧ m2.1 40 0 fr.toNat ≤ 96 from by omega) hGm2
  have hFm5 : zfr (fun k i j => (k = 38) ∨ (k = 39) ∨ (k = 40) ∨ (k = 41)) m0 m5 := by rw [hm5]; exact zfr_wI hFm2 (show (40 = 38) ∨ (40 = 39) ∨ (40 = 40) ∨ (40 = 41) from Or.inr (Or.inr (Or.inl rfl)))
  have s6 : m5.1 40 0 to.toNat = m2.1 40 0 fr.toNat := by rw [hm5]; exact wuI_self
  refine ww_go 2 (pc' := 26) (L' := [(3, .inl 0), (0, .inr (.inr (.inl (some (34, 0))))), (1, .inl fr), (2, .inl to)]) (st' := []) (m' := m5) (o := none) rfl trivial ?_
  refine ww_sub (L := [(0, .inr (.inr (.inl (some (34, 0))))), (1, .inl fr), (2, .inl to), (3, .inl 0)]) ⟨rfl, rfl, rfl, rfl, trivial⟩ rfl rfl ?_
  exact (zs224_l26 hc fr to hG h0 _) 0 m5 rfl (zB_mono hGm5 (by omega)) hFm5 (by omega)
set_option maxRecDepth 8000 in
theorem zs257_l240 {sc : xSc} {n : Nat × Nat} {m0 : wm} {c : Int} (hc : 0 ≤ c ∧ c ≤ 1000000) (f : Int) (hG : zB c m0) (h0 : -2147483648 ≤ f ∧ f ≤ 2147483647) : ∀ (d : Nat), ∀ (y : Int) (k : Int) (i : Int) (m : wm), (96 - i).toNat = d → zB c m → zfr (fun k i j => (k = 38) ∨ (k = 39) ∨ (k = 40) ∨ (k = 41) ∨ (k = 37) ∨ (k = 34 ∧ j = 0) ∨ (k = 34 ∧ j = 1) ∨ (k = 34 ∧ j = 2)) m0 m → (0 ≤ f ∧ f ≤ 1 ∧ 6 * f ≤ k ∧ k ≤ 11 ∧ 0 ≤ y ∧ y ≤ 96 ∧ 0 ≤ i ∧ i ≤ y) → (m.1 34 0 2 = 0) →  wW (zK sc) zM257 240 [(0, .inr (.inr (.inl (some (34, 0))))), (1, .inl f), (2, .inl y), (4, .inl k), (7, .inl i)] [] n m (wr (fun vv n1 m1 => ∃ r : Int, vv = some (.inl r) ∧ n = n1 ∧ zB c m1 ∧ zfr (fun k i j => (k = 38) ∨ (k = 39) ∨ (k = 40) ∨ (k = 41) ∨ (k = 37) ∨ (k = 34 ∧ j = 0) ∨ (k = 34 ∧ j = 1) ∨ (k = 34 ∧ j = 2)) m0 m1 ∧ (m1.1 34 0 1 = 0 ∧ m1.1 34 0 2 = 0))) := by
  intro d
  induction d using Nat.strongRecOn with
  | ind d ih =>
    intro y k i m hd hGm hFm hi hm
    have b0 : 0 ≤ m0.1 37 0 f.toNat ∧ m0.1 37 0 f.toNat ≤ 6 := hG.1 37 _ rfl _ _
    refine ww_go 2 (pc' := 243) (L' := [(0, .inr (.inr (.inl (some (34, 0))))), (1, .inl f), (2, .inl y), (4, .inl k), (7, .inl i)]) (st' := [.inl y, .inl i]) (m' := m) (o := none) rfl trivial ?_
    refine ww_ic (t := 272) rfl rfl (by omega) (fun (h1 : y ≤ i) => ?_) (fun (h1 : ¬ (y ≤ i)) => ?_)
    · show wW (zK sc) zM257 272 [(0, .inr (.inr (.inl (some (34, 0))))), (1, .inl f), (2, .inl y), (4, .inl k), (7, .inl i)] [] _ _ _
      refine ww_go 3 (pc' := 277) (L' := [(0, .inr (.inr (.inl (some (34, 0))))), (1, .inl f), (2, .inl y), (4, .inl k), (7, .inl i)]) (st' := []) (m' := wuI m 34 0 1 0) (o := some ((0 < 1))) rfl (show (0 < 1) from by omega) ?_
      obtain ⟨m2, hm2⟩ : ∃ zq9 : wm, zq9 = wuI m 34 0 1 0 := ⟨_, rfl⟩
      rw [← hm2]
      have hGm2 : zB c m2 := by rw [hm2]; exact zB_wI rfl (show 0 ≤ (0 : Int) ∧ (0 : Int) ≤ 6 from by omega) hGm
      have hFm2 : zfr (fun k i j => (k = 38) ∨ (k = 39) ∨ (k = 40) ∨ (k = 41) ∨ (k = 37) ∨ (k = 34 ∧ j = 0) ∨ (k = 34 ∧ j = 1) ∨ (k = 34 ∧ j = 2)) m0 m2 := by rw [hm2]; exact zfr_wI hFm (show (34 = 38) ∨ (34 = 39) ∨ (34 = 40) ∨ (34 = 41) ∨ (34 = 37) ∨ (34 = 34 ∧ 1 = 0) ∨ (34 = 34 ∧ 1 = 1) ∨ (34 = 34 ∧ 1 = 2) from Or.inr (Or.inr (Or.inr (Or.inr (Or.inr (Or.inr (Or.inl (⟨rfl, rfl⟩))))))))
      have s3 : m2.1 34 0 1 = (0 : Int) := by rw [hm2]; exact wuI_self
      have w4 : m2.1 34 0 0 = m.1 34 0 0 := by rw [hm2]; exact wuI_nj (by omega)
      have w5 : m2.1 34 0 2 = m.1 34 0 2 := by rw [hm2]; exact wuI_nj (by omega)
      have w6 : m2.1 37 0 f.toNat = m.1 37 0 f.toNat := by rw [hm2]; rfl
      have b7 : 0 ≤ m2.1 37 0 f.toNat ∧ m2.1 37 0 f.toNat ≤ 6 := hGm2.1 37 _ rfl _ _
      refine ww_go 4 (pc' := 283) (L' := [(0, .inr (.inr (.inl (some (34, 0))))), (1, .inl f), (2, .inl y), (4, .inl k), (7, .inl i)]) (st' := [.inl (m2.1 37 0 f.toNat)]) (m' := m2) (o := some ((0 < 1) ∧ (0 < 1 ∧ 0 ≤ f ∧ f < ((2 : Nat) : Int)))) rfl (show (0 < 1) ∧ (0 < 1 ∧ 0 ≤ f ∧ f < ((2 : Nat) : Int)) from by omega) ?_
      exact ww_rI rfl rfl ⟨_, rfl, rfl, zB_mono hGm2 (by omega), hFm2, by omega⟩
    · show wW (zK sc) zM257 246 [(0, .inr (.inr (.inl (some (34, 0))))), (1, .inl f), (2, .inl y), (4, .inl k), (7, .inl i)] [] _ _ _
      have b8 : 0 ≤ m.1 36 0 i.toNat ∧ m.1 36 0 i.toNat ≤ 255 := hGm.1 36 _ rfl _ _
      refine ww_go 12 (pc' := 266) (L' := [(0, .inr (.inr (.inl (some (34, 0))))), (1, .inl f), (2, .inl y), (4, .inl k), (7, .inl i)]) (st' := []) (m' := wuI m 41 0 (((96 * k) + i).toNat) (m.1 36 0 i.toNat)) (o := some ((0 < 1) ∧ (0 < 1) ∧ (0 < 1 ∧ 0 ≤ i ∧ i < ((96 : Nat) : Int)) ∧ (0 < 1 ∧ 0 ≤ (96 * k) + i ∧ (96 * k) + i < ((1152 : Nat) : Int)))) rfl (show (0 < 1) ∧ (0 < 1) ∧ (0 < 1 ∧ 0 ≤ i ∧ i < ((96 : Nat) : Int)) ∧ (0 < 1 ∧ 0 ≤ (96 * k) + i ∧ (96 * k) + i < ((1152 : Nat) : Int)) from by omega) ?_
      obtain ⟨m9, hm9⟩ : ∃ zq9 : wm, zq9 = wuI m 41 0 (((96 * k) + i).toNat) (m.1 36 0 i.toNat) := ⟨_, rfl⟩
      rw [← hm9]
      have hGm9 : zB c m9 := by rw [hm9]; exact zB_wI rfl (show 0 ≤ m.1 36 0 i.toNat ∧ m.1 36 0 i.toNat ≤ 255 from by omega) hGm
      have hFm9 : zfr (fun k i j => (k = 38) ∨ (k = 39) ∨ (k = 40) ∨ (k = 41) ∨ (k = 37) ∨ (k = 34 ∧ j = 0) ∨ (k = 34 ∧ j = 1) ∨ (k = 34 ∧ j = 2)) m0 m9 := by rw [hm9]; exact zfr_wI hFm (show (41 = 38) ∨ (41 = 39) ∨ (41 = 40) ∨ (41 = 41) ∨ (41 = 37) ∨ (41 = 34 ∧ (((96 * k) + i).toNat) = 0) ∨ (41 = 34 ∧ (((96 * k) + i).toNat) = 1) ∨ (41 = 34 ∧ (((96 * k) + i).toNat) = 2) from Or.inr (Or.inr (Or.inr (Or.inl rfl))))
      have s10 : m9.1 41 0 (((96 * k) + i).toNat) = m.1 36 0 i.toNat := by rw [hm9]; exact wuI_self
      have w11 : m9.1 34 0 0 = m.1 34 0 0 := by rw [hm9]; rfl
      have w12 : m9.1 34 0 1 = m.1 34 0 1 := by rw [hm9]; rfl
      have w13 : m9.1 34 0 2 = m.1 34 0 2 := by rw [hm9]; rfl
      have w14 : m9.1 37 0 f.toNat = m.1 37 0 f.toNat := by rw [hm9]; rfl
      refine ww_go 2 (pc' := 240) (L' := [(7, .inl (i + 1)), (0, .inr (.inr (.inl (some (34, 0))))), (1, .inl f), (2, .inl y), (4, .inl k)]) (st' := []) (m' := m9) (o := none) rfl trivial ?_
      refine ww_sub (L := [(0, .inr (.inr (.inl (some (34, 0))))), (1, .inl f), (2, .inl y), (4, .inl k), (7, .inl (i + 1))]) ⟨rfl, rfl, rfl, rfl, rfl, trivial⟩ rfl rfl ?_
      exact (ih _ (by omega)) y k (i + 1) m9 rfl (zB_mono hGm9 (by omega)) hFm9 (by omega) (by omega)
set_option maxRecDepth 8000 in
theorem zs257_l194 {sc : xSc} {n : Nat × Nat} {m0 : wm} {c : Int} (hc : 0 ≤ c ∧ c ≤ 1000000) (f : Int) (hG : zB c m0) (h0 : -2147483648 ≤ f ∧ f ≤ 2147483647) : ∀ (d : Nat), ∀ (y : Int) (k : Int) (i : Int) (m : wm), (6 - i).toNat = d → zB c m → zfr (fun k i j => (k = 38) ∨ (k = 39) ∨ (k = 40) ∨ (k = 41) ∨ (k = 37) ∨ (k = 34 ∧ j = 0) ∨ (k = 34 ∧ j = 1) ∨ (k = 34 ∧ j = 2)) m0 m → (0 ≤ f ∧ f ≤ 1 ∧ 6 * f ≤ k ∧ k ≤ 11 ∧ 0 ≤ y ∧ y ≤ 96 ∧ 0 ≤ i ∧ i ≤ 6) → (m.1 34 0 2 = 0) →  wW (zK sc) zM257 194 [(0, .inr (.inr (.inl (some (34, 0))))), (1, .inl f), (2, .inl y), (4, .inl k), (7, .inl i)] [] n m (wr (fun vv n1 m1 => ∃ r : Int, vv = some (.inl r) ∧ n = n1 ∧ zB c m1 ∧ zfr (fun k i j => (k = 38) ∨ (k = 39) ∨ (k = 40) ∨ (k = 41) ∨ (k = 37) ∨ (k = 34 ∧ j = 0) ∨ (k = 34 ∧ j = 1) ∨ (k = 34 ∧ j = 2)) m0 m1 ∧ (m1.1 34 0 1 = 0 ∧ m1.1 34 0 2 = 0))) := by
  intro d
  induction d using Nat.strongRecOn with
  | ind d ih =>
    intro y k i m hd hGm hFm hi hm
    have b0 : 0 ≤ m0.1 37 0 f.toNat ∧ m0.1 37 0 f.toNat ≤ 6 := hG.1 37 _ rfl _ _
    have b1 : 0 ≤ m.1 34 0 1 ∧ m.1 34 0 1 ≤ 6 := hGm.1 34 _ rfl _ _
    refine ww_go 3 (pc' := 200) (L' := [(0, .inr (.inr (.inl (some (34, 0))))), (1, .inl f), (2, .inl y), (4, .inl k), (7, .inl i)]) (st' := [.inl (m.1 34 0 1), .inl i]) (m' := m) (o := some ((0 < 1))) rfl (show (0 < 1) from by omega) ?_
    refine ww_ic (t := 229) rfl rfl (by omega) (fun (h2 : m.1 34 0 1 ≤ i) => ?_) (fun (h2 : ¬ (m.1 34 0 1 ≤ i)) => ?_)
    · show wW (zK sc) zM257 229 [(0, .inr (.inr (.inl (some (34, 0))))), (1, .inl f), (2, .inl y), (4, .inl k), (7, .inl i)] [] _ _ _
      refine ww_go 5 (pc' := 237) (L' := [(0, .inr (.inr (.inl (some (34, 0))))), (1, .inl f), (2, .inl y), (4, .inl k), (7, .inl i)]) (st' := []) (m' := wuI m 40 0 k.toNat y) (o := some ((0 < 1) ∧ (0 < 1 ∧ 0 ≤ k ∧ k < ((12 : Nat) : Int)))) rfl (show (0 < 1) ∧ (0 < 1 ∧ 0 ≤ k ∧ k < ((12 : Nat) : Int)) from by omega) ?_
      obtain ⟨m3, hm3⟩ : ∃ zq9 : wm, zq9 = wuI m 40 0 k.toNat y := ⟨_, rfl⟩
      rw [← hm3]
      have hGm3 : zB c m3 := by rw [hm3]; exact zB_wI rfl (show 0 ≤ y ∧ y ≤ 96 from by omega) hGm
      have hFm3 : zfr (fun k i j => (k = 38) ∨ (k = 39) ∨ (k = 40) ∨ (k = 41) ∨ (k = 37) ∨ (k = 34 ∧ j = 0) ∨ (k = 34 ∧ j = 1) ∨ (k = 34 ∧ j = 2)) m0 m3 := by rw [hm3]; exact zfr_wI hFm (show (40 = 38) ∨ (40 = 39) ∨ (40 = 40) ∨ (40 = 41) ∨ (40 = 37) ∨ (40 = 34 ∧ k.toNat = 0) ∨ (40 = 34 ∧ k.toNat = 1) ∨ (40 = 34 ∧ k.toNat = 2) from Or.inr (Or.inr (Or.inl rfl)))
      have s4 : m3.1 40 0 k.toNat = y := by rw [hm3]; exact wuI_self
      have w5 : m3.1 34 0 0 = m.1 34 0 0 := by rw [hm3]; rfl
      have w6 : m3.1 34 0 1 = m.1 34 0 1 := by rw [hm3]; rfl
      have w7 : m3.1 34 0 2 = m.1 34 0 2 := by rw [hm3]; rfl
      have w8 : m3.1 37 0 f.toNat = m.1 37 0 f.toNat := by rw [hm3]; rfl
      refine ww_go 2 (pc' := 240) (L' := [(7, .inl 0), (0, .inr (.inr (.inl (some (34, 0))))), (1, .inl f), (2, .inl y), (4, .inl k)]) (st' := []) (m' := m3) (o := none) rfl trivial ?_
      refine ww_sub (L := [(0, .inr (.inr (.inl (some (34, 0))))), (1, .inl f), (2, .inl y), (4, .inl k), (7, .inl 0)]) ⟨rfl, rfl, rfl, rfl, rfl, trivial⟩ rfl rfl ?_
      exact (zs257_l240 hc f hG h0 _) y k 0 m3 rfl (zB_mono hGm3 (by omega)) hFm3 (by omega) (by omega)
    · show wW (zK sc) zM257 203 [(0, .inr (.inr (.inl (some (34, 0))))), (1, .inl f), (2, .inl y), (4, .inl k), (7, .inl i)] [] _ _ _
      have b9 : 0 ≤ m.1 35 0 i.toNat ∧ m.1 35 0 i.toNat ≤ 255 := hGm.1 35 _ rfl _ _
      refine ww_go 12 (pc' := 223) (L' := [(0, .inr (.inr (.inl (some (34, 0))))), (1, .inl f), (2, .inl y), (4, .inl k), (7, .inl i)]) (st' := []) (m' := wuI m 39 0 (((6 * k) + i).toNat) (m.1 35 0 i.toNat)) (o := some ((0 < 1) ∧ (0 < 1) ∧ (0 < 1 ∧ 0 ≤ i ∧ i < ((6 : Nat) : Int)) ∧ (0 < 1 ∧ 0 ≤ (6 * k) + i ∧ (6 * k) + i < ((72 : Nat) : Int)))) rfl (show (0 < 1) ∧ (0 < 1) ∧ (0 < 1 ∧ 0 ≤ i ∧ i < ((6 : Nat) : Int)) ∧ (0 < 1 ∧ 0 ≤ (6 * k) + i ∧ (6 * k) + i < ((72 : Nat) : Int)) from by omega) ?_
      obtain ⟨m10, hm10⟩ : ∃ zq9 : wm, zq9 = wuI m 39 0 (((6 * k) + i).toNat) (m.1 35 0 i.toNat) := ⟨_, rfl⟩
      rw [← hm10]
      have hGm10 : zB c m10 := by rw [hm10]; exact zB_wI rfl (show 0 ≤ m.1 35 0 i.toNat ∧ m.1 35 0 i.toNat ≤ 255 from by omega) hGm
      have hFm10 : zfr (fun k i j => (k = 38) ∨ (k = 39) ∨ (k = 40) ∨ (k = 41) ∨ (k = 37) ∨ (k = 34 ∧ j = 0) ∨ (k = 34 ∧ j = 1) ∨ (k = 34 ∧ j = 2)) m0 m10 := by rw [hm10]; exact zfr_wI hFm (show (39 = 38) ∨ (39 = 39) ∨ (39 = 40) ∨ (39 = 41) ∨ (39 = 37) ∨ (39 = 34 ∧ (((6 * k) + i).toNat) = 0) ∨ (39 = 34 ∧ (((6 * k) + i).toNat) = 1) ∨ (39 = 34 ∧ (((6 * k) + i).toNat) = 2) from Or.inr (Or.inl rfl))
      have s11 : m10.1 39 0 (((6 * k) + i).toNat) = m.1 35 0 i.toNat := by rw [hm10]; exact wuI_self
      have w12 : m10.1 34 0 0 = m.1 34 0 0 := by rw [hm10]; rfl
      have w13 : m10.1 34 0 1 = m.1 34 0 1 := by rw [hm10]; rfl
      have w14 : m10.1 34 0 2 = m.1 34 0 2 := by rw [hm10]; rfl
      have w15 : m10.1 37 0 f.toNat = m.1 37 0 f.toNat := by rw [hm10]; rfl
      refine ww_go 2 (pc' := 194) (L' := [(7, .inl (i + 1)), (0, .inr (.inr (.inl (some (34, 0))))), (1, .inl f), (2, .inl y), (4, .inl k)]) (st' := []) (m' := m10) (o := none) rfl trivial ?_
      refine ww_sub (L := [(0, .inr (.inr (.inl (some (34, 0))))), (1, .inl f), (2, .inl y), (4, .inl k), (7, .inl (i + 1))]) ⟨rfl, rfl, rfl, rfl, rfl, trivial⟩ rfl rfl ?_
      exact (ih _ (by omega)) y k (i + 1) m10 rfl (zB_mono hGm10 (by omega)) hFm10 (by omega) (by omega)
set_option maxRecDepth 8000 in
theorem zs257_l147 {sc : xSc} {n : Nat × Nat} {m0 : wm} {c : Int} (hc : 0 ≤ c ∧ c ≤ 1000000) (f : Int) (hG : zB c m0) (h0 : -2147483648 ≤ f ∧ f ≤ 2147483647) : ∀ (d : Nat), ∀ (y : Int) (k : Int) (i : Int) (m : wm), (i - k).toNat = d → zB c m → zfr (fun k i j => (k = 38) ∨ (k = 39) ∨ (k = 40) ∨ (k = 41) ∨ (k = 37) ∨ (k = 34 ∧ j = 0) ∨ (k = 34 ∧ j = 1) ∨ (k = 34 ∧ j = 2)) m0 m → (0 ≤ f ∧ f ≤ 1 ∧ 6 * f ≤ k ∧ k ≤ 11 ∧ 0 ≤ y ∧ y ≤ 96 ∧ k ≤ i ∧ i ≤ 6 * f + 5 ∧ m.1 37 0 f.toNat ≤ 5) → (m.1 34 0 2 = 0) →  wW (zK sc) zM257 147 [(0, .inr (.inr (.inl (some (34, 0))))), (1, .inl f), (2, .inl y), (4, .inl k), (7, .inl i)] [] n m (wr (fun vv n1 m1 => ∃ r : Int, vv = some (.inl r) ∧ n = n1 ∧ zB c m1 ∧ zfr (fun k i j => (k = 38) ∨ (k = 39) ∨ (k = 40) ∨ (k = 41) ∨ (k = 37) ∨ (k = 34 ∧ j = 0) ∨ (k = 34 ∧ j = 1) ∨ (k = 34 ∧ j = 2)) m0 m1 ∧ (m1.1 34 0 1 = 0 ∧ m1.1 34 0 2 = 0))) := by
  intro d
  induction d using Nat.strongRecOn with
  | ind d ih =>
    intro y k i m hd hGm hFm hi hm
    have b0 : 0 ≤ m0.1 37 0 f.toNat ∧ m0.1 37 0 f.toNat ≤ 6 := hG.1 37 _ rfl _ _
    refine ww_go 2 (pc' := 151) (L' := [(0, .inr (.inr (.inl (some (34, 0))))), (1, .inl f), (2, .inl y), (4, .inl k), (7, .inl i)]) (st' := [.inl k, .inl i]) (m' := m) (o := none) rfl trivial ?_
    refine ww_ic (t := 170) rfl rfl (by omega) (fun (h1 : i ≤ k) => ?_) (fun (h1 : ¬ (i ≤ k)) => ?_)
    · show wW (zK sc) zM257 170 [(0, .inr (.inr (.inl (some (34, 0))))), (1, .inl f), (2, .inl y), (4, .inl k), (7, .inl i)] [] _ _ _
      have b2 : 0 ≤ m.1 37 0 f.toNat ∧ m.1 37 0 f.toNat ≤ 6 := hGm.1 37 _ rfl _ _
      refine ww_go 8 (pc' := 180) (L' := [(0, .inr (.inr (.inl (some (34, 0))))), (1, .inl f), (2, .inl y), (4, .inl k), (7, .inl i)]) (st' := []) (m' := wuI m 37 0 f.toNat ((m.1 37 0 f.toNat) + 1)) (o := some ((0 < 1) ∧ (0 < 1 ∧ 0 ≤ f ∧ f < ((2 : Nat) : Int)) ∧ (0 < 1 ∧ 0 ≤ f ∧ f < ((2 : Nat) : Int)))) rfl (show (0 < 1) ∧ (0 < 1 ∧ 0 ≤ f ∧ f < ((2 : Nat) : Int)) ∧ (0 < 1 ∧ 0 ≤ f ∧ f < ((2 : Nat) : Int)) from by omega) ?_
      obtain ⟨m3, hm3⟩ : ∃ zq9 : wm, zq9 = wuI m 37 0 f.toNat ((m.1 37 0 f.toNat) + 1) := ⟨_, rfl⟩
      rw [← hm3]
      have hGm3 : zB c m3 := by rw [hm3]; exact zB_wI rfl (show 0 ≤ (m.1 37 0 f.toNat) + 1 ∧ (m.1 37 0 f.toNat) + 1 ≤ 6 from by omega) hGm
      have hFm3 : zfr (fun k i j => (k = 38) ∨ (k = 39) ∨ (k = 40) ∨ (k = 41) ∨ (k = 37) ∨ (k = 34 ∧ j = 0) ∨ (k = 34 ∧ j = 1) ∨ (k = 34 ∧ j = 2)) m0 m3 := by rw [hm3]; exact zfr_wI hFm (show (37 = 38) ∨ (37 = 39) ∨ (37 = 40) ∨ (37 = 41) ∨ (37 = 37) ∨ (37 = 34 ∧ f.toNat = 0) ∨ (37 = 34 ∧ f.toNat = 1) ∨ (37 = 34 ∧ f.toNat = 2) from Or.inr (Or.inr (Or.inr (Or.inr (Or.inl rfl)))))
      have s4 : m3.1 37 0 f.toNat = (m.1 37 0 f.toNat) + 1 := by rw [hm3]; exact wuI_self
      have w5 : m3.1 34 0 0 = m.1 34 0 0 := by rw [hm3]; rfl
      have w6 : m3.1 34 0 1 = m.1 34 0 1 := by rw [hm3]; rfl
      have w7 : m3.1 34 0 2 = m.1 34 0 2 := by rw [hm3]; rfl
      have b8 : 0 ≤ m3.1 34 0 1 ∧ m3.1 34 0 1 ≤ 6 := hGm3.1 34 _ rfl _ _
      refine ww_go 6 (pc' := 191) (L' := [(0, .inr (.inr (.inl (some (34, 0))))), (1, .inl f), (2, .inl y), (4, .inl k), (7, .inl i)]) (st' := []) (m' := wuI m3 38 0 k.toNat (m3.1 34 0 1)) (o := some ((0 < 1) ∧ (0 < 1) ∧ (0 < 1 ∧ 0 ≤ k ∧ k < ((12 : Nat) : Int)))) rfl (show (0 < 1) ∧ (0 < 1) ∧ (0 < 1 ∧ 0 ≤ k ∧ k < ((12 : Nat) : Int)) from by omega) ?_
      obtain ⟨m9, hm9⟩ : ∃ zq9 : wm, zq9 = wuI m3 38 0 k.toNat (m3.1 34 0 1) := ⟨_, rfl⟩
      rw [← hm9]
      have hGm9 : zB c m9 := by rw [hm9]; exact zB_wI rfl (show 0 ≤ m3.1 34 0 1 ∧ m3.1 34 0 1 ≤ 6 from by omega) hGm3
      have hFm9 : zfr (fun k i j => (k = 38) ∨ (k = 39) ∨ (k = 40) ∨ (k = 41) ∨ (k = 37) ∨ (k = 34 ∧ j = 0) ∨ (k = 34 ∧ j = 1) ∨ (k = 34 ∧ j = 2)) m0 m9 := by rw [hm9]; exact zfr_wI hFm3 (show (38 = 38) ∨ (38 = 39) ∨ (38 = 40) ∨ (38 = 41) ∨ (38 = 37) ∨ (38 = 34 ∧ k.toNat = 0) ∨ (38 = 34 ∧ k.toNat = 1) ∨ (38 = 34 ∧ k.toNat = 2) from Or.inl rfl)
      have s10 : m9.1 38 0 k.toNat = m3.1 34 0 1 := by rw [hm9]; exact wuI_self
      have w11 : m9.1 34 0 0 = m3.1 34 0 0 := by rw [hm9]; rfl
      have w12 : m9.1 34 0 1 = m3.1 34 0 1 := by rw [hm9]; rfl
      have w13 : m9.1 34 0 2 = m3.1 34 0 2 := by rw [hm9]; rfl
      have w14 : m9.1 37 0 f.toNat = m3.1 37 0 f.toNat := by rw [hm9]; rfl
      refine ww_go 2 (pc' := 194) (L' := [(7, .inl 0), (0, .inr (.inr (.inl (some (34, 0))))), (1, .inl f), (2, .inl y), (4, .inl k)]) (st' := []) (m' := m9) (o := none) rfl trivial ?_
      refine ww_sub (L := [(0, .inr (.inr (.inl (some (34, 0))))), (1, .inl f), (2, .inl y), (4, .inl k), (7, .inl 0)]) ⟨rfl, rfl, rfl, rfl, rfl, trivial⟩ rfl rfl ?_
      exact (zs257_l194 hc f hG h0 _) y k 0 m9 rfl (zB_mono hGm9 (by omega)) hFm9 (by omega) (by omega)
    · show wW (zK sc) zM257 154 [(0, .inr (.inr (.inl (some (34, 0))))), (1, .inl f), (2, .inl y), (4, .inl k), (7, .inl i)] [] _ _ _
      refine ww_go 5 (pc' := 161) (L' := [(0, .inr (.inr (.inl (some (34, 0))))), (1, .inl f), (2, .inl y), (4, .inl k), (7, .inl i)]) (st' := [.inl i, .inl (i - 1), .inr (.inr (.inl (some (34, 0))))]) (m' := m) (o := none) rfl trivial ?_
      refine ww_call (vs := [.inr (.inr (.inl (some (34, 0)))), .inl (i - 1), .inl i]) (r := []) (p := 0 < 1) rfl rfl rfl rfl (show 0 < 1 from by omega) (zs224 (c := c) (by omega) (i - 1) i hGm (by omega)) ?_
      rintro _ _ m17 ⟨rfl, rfl, hGm17, hEm17, hr16⟩
      have hFm17 : zfr (fun k i j => (k = 38) ∨ (k = 39) ∨ (k = 40) ∨ (k = 41) ∨ (k = 37) ∨ (k = 34 ∧ j = 0) ∨ (k = 34 ∧ j = 1) ∨ (k = 34 ∧ j = 2)) m0 m17 := zfr_tr hFm hEm17 (fun k i j z => Or.elim z (fun z => Or.inl z) (fun z => Or.elim z (fun z => Or.inr (Or.inl z)) (fun z => Or.elim z (fun z => Or.inr (Or.inr (Or.inl z))) (fun z => Or.inr (Or.inr (Or.inr (Or.inl z)))))))
      have w18 : m17.1 34 0 0 = m.1 34 0 0 := (hEm17 34 0 0 (show ¬ ((34 = 38) ∨ (34 = 39) ∨ (34 = 40) ∨ (34 = 41)) from by omega)).1
      have w19 : m17.1 34 0 1 = m.1 34 0 1 := (hEm17 34 0 1 (show ¬ ((34 = 38) ∨ (34 = 39) ∨ (34 = 40) ∨ (34 = 41)) from by omega)).1
      have w20 : m17.1 34 0 2 = m.1 34 0 2 := (hEm17 34 0 2 (show ¬ ((34 = 38) ∨ (34 = 39) ∨ (34 = 40) ∨ (34 = 41)) from by omega)).1
      have w21 : m17.1 37 0 f.toNat = m.1 37 0 f.toNat := (hEm17 37 0 f.toNat (show ¬ ((37 = 38) ∨ (37 = 39) ∨ (37 = 40) ∨ (37 = 41)) from by omega)).1
      show wW (zK sc) zM257 164 [(0, .inr (.inr (.inl (some (34, 0))))), (1, .inl f), (2, .inl y), (4, .inl k), (7, .inl i)] [] _ _ _
      refine ww_go 2 (pc' := 147) (L' := [(7, .inl (i + (-1))), (0, .inr (.inr (.inl (some (34, 0))))), (1, .inl f), (2, .inl y), (4, .inl k)]) (st' := []) (m' := m17) (o := none) rfl trivial ?_
      refine ww_sub (L := [(0, .inr (.inr (.inl (some (34, 0))))), (1, .inl f), (2, .inl y), (4, .inl k), (7, .inl (i + (-1)))]) ⟨rfl, rfl, rfl, rfl, rfl, trivial⟩ rfl rfl ?_
      exact (ih _ (by omega)) y k (i + (-1)) m17 rfl (zB_mono hGm17 (by omega)) hFm17 (by omega) (by omega)
set_option maxRecDepth 8000 in
/-- Mo.write -/
theorem zs257 {sc : xSc} {n : Nat × Nat} {m0 : wm} {c : Int} (hc : 0 ≤ c ∧ c ≤ 1000000) (f : Int) (hG : zB c m0) (h0 : -2147483648 ≤ f ∧ f ≤ 2147483647) : wX (zK sc) 257 [.inr (.inr (.inl (some (34, 0)))), .inl f] n m0 (wr (fun vv n1 m1 => ∃ r : Int, vv = some (.inl r) ∧ n = n1 ∧ zB c m1 ∧ zfr (fun k i j => (k = 38) ∨ (k = 39) ∨ (k = 40) ∨ (k = 41) ∨ (k = 37) ∨ (k = 34 ∧ j = 0) ∨ (k = 34 ∧ j = 1) ∨ (k = 34 ∧ j = 2)) m0 m1 ∧ (m1.1 34 0 1 = 0 ∧ m1.1 34 0 2 = 0))) := by
  refine wX_of (N := zM257) rfl (Nat.le_of_ble_eq_true rfl) ?_
  show wW (zK sc) zM257 0 [(0, .inr (.inr (.inl (some (34, 0))))), (1, .inl f)] [] n m0 _
  have hF : zfr (fun k i j => (k = 38) ∨ (k = 39) ∨ (k = 40) ∨ (k = 41) ∨ (k = 37) ∨ (k = 34 ∧ j = 0) ∨ (k = 34 ∧ j = 1) ∨ (k = 34 ∧ j = 2)) m0 m0 := zfr_rf
  have b0 : 0 ≤ m0.1 37 0 f.toNat ∧ m0.1 37 0 f.toNat ≤ 6 := hG.1 37 _ rfl _ _
  have b1 : 0 ≤ m0.1 34 0 2 ∧ m0.1 34 0 2 ≤ 96 := hG.1 34 _ rfl _ _
  refine ww_go 6 (pc' := 10) (L' := [(2, .inl (m0.1 34 0 2)), (0, .inr (.inr (.inl (some (34, 0))))), (1, .inl f)]) (st' := []) (m' := wuI m0 34 0 2 0) (o := some ((0 < 1) ∧ (0 < 1))) rfl (show (0 < 1) ∧ (0 < 1) from by omega) ?_
  obtain ⟨m2, hm2⟩ : ∃ zq9 : wm, zq9 = wuI m0 34 0 2 0 := ⟨_, rfl⟩
  rw [← hm2]
  have hGm2 : zB c m2 := by rw [hm2]; exact zB_wI rfl (show 0 ≤ (0 : Int) ∧ (0 : Int) ≤ 96 from by omega) hG
  have hFm2 : zfr (fun k i j => (k = 38) ∨ (k = 39) ∨ (k = 40) ∨ (k = 41) ∨ (k = 37) ∨ (k = 34 ∧ j = 0) ∨ (k = 34 ∧ j = 1) ∨ (k = 34 ∧ j = 2)) m0 m2 := by rw [hm2]; exact zfr_wI hF (show (34 = 38) ∨ (34 = 39) ∨ (34 = 40) ∨ (34 = 41) ∨ (34 = 37) ∨ (34 = 34 ∧ 2 = 0) ∨ (34 = 34 ∧ 2 = 1) ∨ (34 = 34 ∧ 2 = 2) from Or.inr (Or.inr (Or.inr (Or.inr (Or.inr (Or.inr (Or.inr (⟨rfl, rfl⟩))))))))
  have s3 : m2.1 34 0 2 = (0 : Int) := by rw [hm2]; exact wuI_self
  have w4 : m2.1 34 0 0 = m0.1 34 0 0 := by rw [hm2]; exact wuI_nj (by omega)
  have w5 : m2.1 34 0 1 = m0.1 34 0 1 := by rw [hm2]; exact wuI_nj (by omega)
  have w6 : m2.1 37 0 f.toNat = m0.1 37 0 f.toNat := by rw [hm2]; rfl
  refine ww_go 3 (pc' := 13) (L' := [(2, .inl (m0.1 34 0 2)), (0, .inr (.inr (.inl (some (34, 0))))), (1, .inl f)]) (st' := [.inl 1, .inl 0, .inl f]) (m' := m2) (o := none) rfl trivial ?_
  refine ww_call (vs := [.inl f, .inl 0, .inl 1]) (r := []) (p := True) rfl rfl rfl rfl trivial (zs207 f 0 1 (by omega)) ?_
  rintro _ _ _ ⟨r7, rfl, rfl, rfl, hr8⟩
  show wW (zK sc) zM257 16 [(2, .inl (m0.1 34 0 2)), (0, .inr (.inr (.inl (some (34, 0))))), (1, .inl f)] [.inl r7] _ _ _
  refine ww_if (t := 26) rfl rfl (by omega) (fun (h9 : r7 = 0) => ?_) (fun (h9 : ¬ (r7 = 0)) => ?_)
  · show wW (zK sc) zM257 26 [(2, .inl (m0.1 34 0 2)), (0, .inr (.inr (.inl (some (34, 0))))), (1, .inl f)] [] _ _ _
    refine ww_go 4 (pc' := 33) (L' := [(3, .inl 1), (2, .inl (m0.1 34 0 2)), (0, .inr (.inr (.inl (some (34, 0))))), (1, .inl f)]) (st' := [.inl 1]) (m' := m2) (o := none) rfl trivial ?_
    refine ww_if (t := 40) rfl rfl (by decide) (fun (h10 : (1 : Int) = 0) => absurd h10 (by decide)) (fun (h10 : ¬ ((1 : Int) = 0)) => ?_)
    show wW (zK sc) zM257 36 [(3, .inl 1), (2, .inl (m0.1 34 0 2)), (0, .inr (.inr (.inl (some (34, 0))))), (1, .inl f)] [] _ _ _
    refine ww_go 4 (pc' := 48) (L' := [(4, .inl 0), (3, .inl 1), (2, .inl (m0.1 34 0 2)), (0, .inr (.inr (.inl (some (34, 0))))), (1, .inl f)]) (st' := [.inl 1]) (m' := m2) (o := none) rfl trivial ?_
    refine ww_if (t := 65) rfl rfl (by decide) (fun (h11 : (1 : Int) ≠ 0) => ?_) (fun (h11 : ¬ ((1 : Int) ≠ 0)) => absurd (show (1 : Int) ≠ 0 from by decide) h11)
    show wW (zK sc) zM257 65 [(4, .inl 0), (3, .inl 1), (2, .inl (m0.1 34 0 2)), (0, .inr (.inr (.inl (some (34, 0))))), (1, .inl f)] [] _ _ _
    refine ww_go 3 (pc' := 69) (L' := [(5, .inl 0), (4, .inl 0), (3, .inl 1), (2, .inl (m0.1 34 0 2)), (0, .inr (.inr (.inl (some (34, 0))))), (1, .inl f)]) (st' := [.inl 1]) (m' := m2) (o := none) rfl trivial ?_
    refine ww_if (t := 92) rfl rfl (by decide) (fun (h12 : (1 : Int) ≠ 0) => ?_) (fun (h12 : ¬ ((1 : Int) ≠ 0)) => absurd (show (1 : Int) ≠ 0 from by decide) h12)
    show wW (zK sc) zM257 92 [(5, .inl 0), (4, .inl 0), (3, .inl 1), (2, .inl (m0.1 34 0 2)), (0, .inr (.inr (.inl (some (34, 0))))), (1, .inl f)] [] _ _ _
    refine ww_go 3 (pc' := 96) (L' := [(6, .inl 0), (5, .inl 0), (4, .inl 0), (3, .inl 1), (2, .inl (m0.1 34 0 2)), (0, .inr (.inr (.inl (some (34, 0))))), (1, .inl f)]) (st' := [.inl 1]) (m' := m2) (o := none) rfl trivial ?_
    refine ww_if (t := 104) rfl rfl (by decide) (fun (h13 : (1 : Int) ≠ 0) => ?_) (fun (h13 : ¬ ((1 : Int) ≠ 0)) => absurd (show (1 : Int) ≠ 0 from by decide) h13)
    show wW (zK sc) zM257 104 [(6, .inl 0), (5, .inl 0), (4, .inl 0), (3, .inl 1), (2, .inl (m0.1 34 0 2)), (0, .inr (.inr (.inl (some (34, 0))))), (1, .inl f)] [] _ _ _
    refine ww_go 3 (pc' := 109) (L' := [(6, .inl 0), (5, .inl 0), (4, .inl 0), (3, .inl 1), (2, .inl (m0.1 34 0 2)), (0, .inr (.inr (.inl (some (34, 0))))), (1, .inl f)]) (st' := []) (m' := wuI m2 34 0 1 0) (o := some ((0 < 1))) rfl (show (0 < 1) from by omega) ?_
    obtain ⟨m14, hm14⟩ : ∃ zq9 : wm, zq9 = wuI m2 34 0 1 0 := ⟨_, rfl⟩
    rw [← hm14]
    have hGm14 : zB c m14 := by rw [hm14]; exact zB_wI rfl (show 0 ≤ (0 : Int) ∧ (0 : Int) ≤ 6 from by omega) hGm2
    have hFm14 : zfr (fun k i j => (k = 38) ∨ (k = 39) ∨ (k = 40) ∨ (k = 41) ∨ (k = 37) ∨ (k = 34 ∧ j = 0) ∨ (k = 34 ∧ j = 1) ∨ (k = 34 ∧ j = 2)) m0 m14 := by rw [hm14]; exact zfr_wI hFm2 (show (34 = 38) ∨ (34 = 39) ∨ (34 = 40) ∨ (34 = 41) ∨ (34 = 37) ∨ (34 = 34 ∧ 1 = 0) ∨ (34 = 34 ∧ 1 = 1) ∨ (34 = 34 ∧ 1 = 2) from Or.inr (Or.inr (Or.inr (Or.inr (Or.inr (Or.inr (Or.inl (⟨rfl, rfl⟩))))))))
    have s15 : m14.1 34 0 1 = (0 : Int) := by rw [hm14]; exact wuI_self
    have w16 : m14.1 34 0 0 = m2.1 34 0 0 := by rw [hm14]; exact wuI_nj (by omega)
    have w17 : m14.1 34 0 2 = m2.1 34 0 2 := by rw [hm14]; exact wuI_nj (by omega)
    have w18 : m14.1 37 0 f.toNat = m2.1 37 0 f.toNat := by rw [hm14]; rfl
    refine ww_go 2 (pc' := 111) (L' := [(6, .inl 0), (5, .inl 0), (4, .inl 0), (3, .inl 1), (2, .inl (m0.1 34 0 2)), (0, .inr (.inr (.inl (some (34, 0))))), (1, .inl f)]) (st' := [.inl 1, .inr (.inr (.inl (some (34, 0))))]) (m' := m14) (o := none) rfl trivial ?_
    refine ww_if (t := 118) rfl rfl (by decide) (fun (h19 : (1 : Int) = 0) => absurd h19 (by decide)) (fun (h19 : ¬ ((1 : Int) = 0)) => ?_)
    show wW (zK sc) zM257 114 [(6, .inl 0), (5, .inl 0), (4, .inl 0), (3, .inl 1), (2, .inl (m0.1 34 0 2)), (0, .inr (.inr (.inl (some (34, 0))))), (1, .inl f)] [.inr (.inr (.inl (some (34, 0))))] _ _ _
    refine ww_go 3 (pc' := 122) (L' := [(6, .inl 0), (5, .inl 0), (4, .inl 0), (3, .inl 1), (2, .inl (m0.1 34 0 2)), (0, .inr (.inr (.inl (some (34, 0))))), (1, .inl f)]) (st' := []) (m' := wuI m14 34 0 0 1) (o := some ((0 < 1))) rfl (show (0 < 1) from by omega) ?_
    obtain ⟨m20, hm20⟩ : ∃ zq9 : wm, zq9 = wuI m14 34 0 0 1 := ⟨_, rfl⟩
    rw [← hm20]
    have hGm20 : zB c m20 := by rw [hm20]; exact zB_wI rfl (show 0 ≤ (1 : Int) ∧ (1 : Int) ≤ 2 from by omega) hGm14
    have hFm20 : zfr (fun k i j => (k = 38) ∨ (k = 39) ∨ (k = 40) ∨ (k = 41) ∨ (k = 37) ∨ (k = 34 ∧ j = 0) ∨ (k = 34 ∧ j = 1) ∨ (k = 34 ∧ j = 2)) m0 m20 := by rw [hm20]; exact zfr_wI hFm14 (show (34 = 38) ∨ (34 = 39) ∨ (34 = 40) ∨ (34 = 41) ∨ (34 = 37) ∨ (34 = 34 ∧ 0 = 0) ∨ (34 = 34 ∧ 0 = 1) ∨ (34 = 34 ∧ 0 = 2) from Or.inr (Or.inr (Or.inr (Or.inr (Or.inr (Or.inl (⟨rfl, rfl⟩)))))))
    have s21 : m20.1 34 0 0 = (1 : Int) := by rw [hm20]; exact wuI_self
    have w22 : m20.1 34 0 1 = m14.1 34 0 1 := by rw [hm20]; exact wuI_nj (by omega)
    have w23 : m20.1 34 0 2 = m14.1 34 0 2 := by rw [hm20]; exact wuI_nj (by omega)
    have w24 : m20.1 37 0 f.toNat = m14.1 37 0 f.toNat := by rw [hm20]; rfl
    refine ww_go 1 (pc' := 123) (L' := [(6, .inl 0), (5, .inl 0), (4, .inl 0), (3, .inl 1), (2, .inl (m0.1 34 0 2)), (0, .inr (.inr (.inl (some (34, 0))))), (1, .inl f)]) (st' := [.inl 0]) (m' := m20) (o := none) rfl trivial ?_
    exact ww_rI rfl rfl ⟨_, rfl, rfl, zB_mono hGm20 (by omega), hFm20, by omega⟩
  · show wW (zK sc) zM257 19 [(2, .inl (m0.1 34 0 2)), (0, .inr (.inr (.inl (some (34, 0))))), (1, .inl f)] [] _ _ _
    refine ww_go 1 (pc' := 20) (L' := [(2, .inl (m0.1 34 0 2)), (0, .inr (.inr (.inl (some (34, 0))))), (1, .inl f)]) (st' := [.inr (.inr (.inl (some (34, 0))))]) (m' := m2) (o := none) rfl trivial ?_
    refine ww_call (vs := [.inr (.inr (.inl (some (34, 0))))]) (r := []) (p := 0 < 1) rfl rfl rfl rfl (show 0 < 1 from by omega) (zs212 (c := c) (by omega) hGm2) ?_
    rintro _ _ _ ⟨r25, rfl, rfl, rfl, hr26⟩
    show wW (zK sc) zM257 23 [(2, .inl (m0.1 34 0 2)), (0, .inr (.inr (.inl (some (34, 0))))), (1, .inl f)] [.inl r25] _ _ _
    refine ww_if (t := 30) rfl rfl (by omega) (fun (h27 : r25 ≠ 0) => ?_) (fun (h27 : ¬ (r25 ≠ 0)) => ?_)
    · show wW (zK sc) zM257 30 [(2, .inl (m0.1 34 0 2)), (0, .inr (.inr (.inl (some (34, 0))))), (1, .inl f)] [] _ _ _
      refine ww_go 3 (pc' := 33) (L' := [(3, .inl 0), (2, .inl (m0.1 34 0 2)), (0, .inr (.inr (.inl (some (34, 0))))), (1, .inl f)]) (st' := [.inl 0]) (m' := m2) (o := none) rfl trivial ?_
      refine ww_if (t := 40) rfl rfl (by decide) (fun (h28 : (0 : Int) = 0) => ?_) (fun (h28 : ¬ ((0 : Int) = 0)) => absurd (show (0 : Int) = 0 from by decide) h28)
      show wW (zK sc) zM257 40 [(3, .inl 0), (2, .inl (m0.1 34 0 2)), (0, .inr (.inr (.inl (some (34, 0))))), (1, .inl f)] [] _ _ _
      refine ww_go 2 (pc' := 42) (L' := [(3, .inl 0), (2, .inl (m0.1 34 0 2)), (0, .inr (.inr (.inl (some (34, 0))))), (1, .inl f)]) (st' := [.inl f, .inr (.inr (.inl (some (34, 0))))]) (m' := m2) (o := none) rfl trivial ?_
      refine ww_call (vs := [.inr (.inr (.inl (some (34, 0)))), .inl f]) (r := []) (p := 0 < 1) rfl rfl rfl rfl (show 0 < 1 from by omega) (zs230 (c := c) (by omega) f hGm2 (by omega)) ?_
      rintro _ _ _ ⟨r29, rfl, rfl, rfl, hr30⟩
      show wW (zK sc) zM257 45 [(3, .inl 0), (2, .inl (m0.1 34 0 2)), (0, .inr (.inr (.inl (some (34, 0))))), (1, .inl f)] [.inl r29] _ _ _
      refine ww_go 2 (pc' := 48) (L' := [(4, .inl r29), (3, .inl 0), (2, .inl (m0.1 34 0 2)), (0, .inr (.inr (.inl (some (34, 0))))), (1, .inl f)]) (st' := [.inl 0]) (m' := m2) (o := none) rfl trivial ?_
      refine ww_if (t := 65) rfl rfl (by decide) (fun (h31 : (0 : Int) ≠ 0) => absurd h31 (by decide)) (fun (h31 : ¬ ((0 : Int) ≠ 0)) => ?_)
      show wW (zK sc) zM257 51 [(4, .inl r29), (3, .inl 0), (2, .inl (m0.1 34 0 2)), (0, .inr (.inr (.inl (some (34, 0))))), (1, .inl f)] [] _ _ _
      refine ww_go 3 (pc' := 55) (L' := [(4, .inl r29), (3, .inl 0), (2, .inl (m0.1 34 0 2)), (0, .inr (.inr (.inl (some (34, 0))))), (1, .inl f)]) (st' := [.inl r29, .inl f, .inr (.inr (.inl (some (34, 0))))]) (m' := m2) (o := none) rfl trivial ?_
      refine ww_call (vs := [.inr (.inr (.inl (some (34, 0)))), .inl f, .inl r29]) (r := []) (p := 0 < 1) rfl rfl rfl rfl (show 0 < 1 from by omega) (zs214 (c := c) (by omega) f r29 hGm2 (by omega)) ?_
      rintro _ _ _ ⟨r32, rfl, rfl, rfl, hr33⟩
      show wW (zK sc) zM257 58 [(4, .inl r29), (3, .inl 0), (2, .inl (m0.1 34 0 2)), (0, .inr (.inr (.inl (some (34, 0))))), (1, .inl f)] [.inl r32] _ _ _
      refine ww_if (t := 65) rfl rfl (by omega) (fun (h34 : r32 = 0) => ?_) (fun (h34 : ¬ (r32 = 0)) => ?_)
      · show wW (zK sc) zM257 65 [(4, .inl r29), (3, .inl 0), (2, .inl (m0.1 34 0 2)), (0, .inr (.inr (.inl (some (34, 0))))), (1, .inl f)] [] _ _ _
        refine ww_go 3 (pc' := 69) (L' := [(5, .inl 0), (4, .inl r29), (3, .inl 0), (2, .inl (m0.1 34 0 2)), (0, .inr (.inr (.inl (some (34, 0))))), (1, .inl f)]) (st' := [.inl 0]) (m' := m2) (o := none) rfl trivial ?_
        refine ww_if (t := 92) rfl rfl (by decide) (fun (h35 : (0 : Int) ≠ 0) => absurd h35 (by decide)) (fun (h35 : ¬ ((0 : Int) ≠ 0)) => ?_)
        show wW (zK sc) zM257 72 [(5, .inl 0), (4, .inl r29), (3, .inl 0), (2, .inl (m0.1 34 0 2)), (0, .inr (.inr (.inl (some (34, 0))))), (1, .inl f)] [] _ _ _
        refine ww_go 1 (pc' := 74) (L' := [(5, .inl 0), (4, .inl r29), (3, .inl 0), (2, .inl (m0.1 34 0 2)), (0, .inr (.inr (.inl (some (34, 0))))), (1, .inl f)]) (st' := [.inl 0]) (m' := m2) (o := none) rfl trivial ?_
        refine ww_if (t := 92) rfl rfl (by decide) (fun (h36 : (0 : Int) ≠ 0) => absurd h36 (by decide)) (fun (h36 : ¬ ((0 : Int) ≠ 0)) => ?_)
        show wW (zK sc) zM257 77 [(5, .inl 0), (4, .inl r29), (3, .inl 0), (2, .inl (m0.1 34 0 2)), (0, .inr (.inr (.inl (some (34, 0))))), (1, .inl f)] [] _ _ _
        have b37 : 0 ≤ m2.1 37 0 f.toNat ∧ m2.1 37 0 f.toNat ≤ 6 := hGm2.1 37 _ rfl _ _
        refine ww_go 5 (pc' := 85) (L' := [(5, .inl 0), (4, .inl r29), (3, .inl 0), (2, .inl (m0.1 34 0 2)), (0, .inr (.inr (.inl (some (34, 0))))), (1, .inl f)]) (st' := [.inl 6, .inl (m2.1 37 0 f.toNat)]) (m' := m2) (o := some ((0 < 1) ∧ (0 < 1 ∧ 0 ≤ f ∧ f < ((2 : Nat) : Int)))) rfl (show (0 < 1) ∧ (0 < 1 ∧ 0 ≤ f ∧ f < ((2 : Nat) : Int)) from by omega) ?_
        refine ww_ic (t := 92) rfl rfl (by omega) (fun (h38 : m2.1 37 0 f.toNat ≠ 6) => ?_) (fun (h38 : ¬ (m2.1 37 0 f.toNat ≠ 6)) => ?_)
        · show wW (zK sc) zM257 92 [(5, .inl 0), (4, .inl r29), (3, .inl 0), (2, .inl (m0.1 34 0 2)), (0, .inr (.inr (.inl (some (34, 0))))), (1, .inl f)] [] _ _ _
          refine ww_go 3 (pc' := 96) (L' := [(6, .inl 0), (5, .inl 0), (4, .inl r29), (3, .inl 0), (2, .inl (m0.1 34 0 2)), (0, .inr (.inr (.inl (some (34, 0))))), (1, .inl f)]) (st' := [.inl 0]) (m' := m2) (o := none) rfl trivial ?_
          refine ww_if (t := 104) rfl rfl (by decide) (fun (h39 : (0 : Int) ≠ 0) => absurd h39 (by decide)) (fun (h39 : ¬ ((0 : Int) ≠ 0)) => ?_)
          show wW (zK sc) zM257 99 [(6, .inl 0), (5, .inl 0), (4, .inl r29), (3, .inl 0), (2, .inl (m0.1 34 0 2)), (0, .inr (.inr (.inl (some (34, 0))))), (1, .inl f)] [] _ _ _
          refine ww_go 1 (pc' := 101) (L' := [(6, .inl 0), (5, .inl 0), (4, .inl r29), (3, .inl 0), (2, .inl (m0.1 34 0 2)), (0, .inr (.inr (.inl (some (34, 0))))), (1, .inl f)]) (st' := [.inl 0]) (m' := m2) (o := none) rfl trivial ?_
          refine ww_if (t := 124) rfl rfl (by decide) (fun (h40 : (0 : Int) = 0) => ?_) (fun (h40 : ¬ ((0 : Int) = 0)) => absurd (show (0 : Int) = 0 from by decide) h40)
          show wW (zK sc) zM257 124 [(6, .inl 0), (5, .inl 0), (4, .inl r29), (3, .inl 0), (2, .inl (m0.1 34 0 2)), (0, .inr (.inr (.inl (some (34, 0))))), (1, .inl f)] [] _ _ _
          refine ww_go 3 (pc' := 129) (L' := [(6, .inl 0), (5, .inl 0), (4, .inl r29), (3, .inl 0), (2, .inl (m0.1 34 0 2)), (0, .inr (.inr (.inl (some (34, 0))))), (1, .inl f)]) (st' := []) (m' := wuI m2 34 0 0 0) (o := some ((0 < 1))) rfl (show (0 < 1) from by omega) ?_
          obtain ⟨m41, hm41⟩ : ∃ zq9 : wm, zq9 = wuI m2 34 0 0 0 := ⟨_, rfl⟩
          rw [← hm41]
          have hGm41 : zB c m41 := by rw [hm41]; exact zB_wI rfl (show 0 ≤ (0 : Int) ∧ (0 : Int) ≤ 2 from by omega) hGm2
          have hFm41 : zfr (fun k i j => (k = 38) ∨ (k = 39) ∨ (k = 40) ∨ (k = 41) ∨ (k = 37) ∨ (k = 34 ∧ j = 0) ∨ (k = 34 ∧ j = 1) ∨ (k = 34 ∧ j = 2)) m0 m41 := by rw [hm41]; exact zfr_wI hFm2 (show (34 = 38) ∨ (34 = 39) ∨ (34 = 40) ∨ (34 = 41) ∨ (34 = 37) ∨ (34 = 34 ∧ 0 = 0) ∨ (34 = 34 ∧ 0 = 1) ∨ (34 = 34 ∧ 0 = 2) from Or.inr (Or.inr (Or.inr (Or.inr (Or.inr (Or.inl (⟨rfl, rfl⟩)))))))
          have s42 : m41.1 34 0 0 = (0 : Int) := by rw [hm41]; exact wuI_self
          have w43 : m41.1 34 0 1 = m2.1 34 0 1 := by rw [hm41]; exact wuI_nj (by omega)
          have w44 : m41.1 34 0 2 = m2.1 34 0 2 := by rw [hm41]; exact wuI_nj (by omega)
          have w45 : m41.1 37 0 f.toNat = m2.1 37 0 f.toNat := by rw [hm41]; rfl
          refine ww_go 1 (pc' := 131) (L' := [(6, .inl 0), (5, .inl 0), (4, .inl r29), (3, .inl 0), (2, .inl (m0.1 34 0 2)), (0, .inr (.inr (.inl (some (34, 0))))), (1, .inl f)]) (st' := [.inl 0]) (m' := m41) (o := none) rfl trivial ?_
          refine ww_if (t := 180) rfl rfl (by decide) (fun (h46 : (0 : Int) ≠ 0) => absurd h46 (by decide)) (fun (h46 : ¬ ((0 : Int) ≠ 0)) => ?_)
          show wW (zK sc) zM257 134 [(6, .inl 0), (5, .inl 0), (4, .inl r29), (3, .inl 0), (2, .inl (m0.1 34 0 2)), (0, .inr (.inr (.inl (some (34, 0))))), (1, .inl f)] [] _ _ _
          have b47 : 0 ≤ m41.1 37 0 f.toNat ∧ m41.1 37 0 f.toNat ≤ 6 := hGm41.1 37 _ rfl _ _
          refine ww_go 9 (pc' := 147) (L' := [(7, .inl ((6 * f) + (m41.1 37 0 f.toNat))), (6, .inl 0), (5, .inl 0), (4, .inl r29), (3, .inl 0), (2, .inl (m0.1 34 0 2)), (0, .inr (.inr (.inl (some (34, 0))))), (1, .inl f)]) (st' := []) (m' := m41) (o := some ((0 < 1) ∧ (0 < 1 ∧ 0 ≤ f ∧ f < ((2 : Nat) : Int)))) rfl (show (0 < 1) ∧ (0 < 1 ∧ 0 ≤ f ∧ f < ((2 : Nat) : Int)) from by omega) ?_
          refine ww_sub (L := [(0, .inr (.inr (.inl (some (34, 0))))), (1, .inl f), (2, .inl (m0.1 34 0 2)), (4, .inl r29), (7, .inl ((6 * f) + (m41.1 37 0 f.toNat)))]) ⟨rfl, rfl, rfl, rfl, rfl, trivial⟩ rfl rfl ?_
          exact (zs257_l147 hc f hG h0 _) (m0.1 34 0 2) r29 ((6 * f) + (m41.1 37 0 f.toNat)) m41 rfl (zB_mono hGm41 (by omega)) hFm41 (by omega) (by omega)
        · show wW (zK sc) zM257 88 [(5, .inl 0), (4, .inl r29), (3, .inl 0), (2, .inl (m0.1 34 0 2)), (0, .inr (.inr (.inl (some (34, 0))))), (1, .inl f)] [] _ _ _
          refine ww_go 4 (pc' := 96) (L' := [(6, .inl 1), (5, .inl 0), (4, .inl r29), (3, .inl 0), (2, .inl (m0.1 34 0 2)), (0, .inr (.inr (.inl (some (34, 0))))), (1, .inl f)]) (st' := [.inl 0]) (m' := m2) (o := none) rfl trivial ?_
          refine ww_if (t := 104) rfl rfl (by decide) (fun (h48 : (0 : Int) ≠ 0) => absurd h48 (by decide)) (fun (h48 : ¬ ((0 : Int) ≠ 0)) => ?_)
          show wW (zK sc) zM257 99 [(6, .inl 1), (5, .inl 0), (4, .inl r29), (3, .inl 0), (2, .inl (m0.1 34 0 2)), (0, .inr (.inr (.inl (some (34, 0))))), (1, .inl f)] [] _ _ _
          refine ww_go 1 (pc' := 101) (L' := [(6, .inl 1), (5, .inl 0), (4, .inl r29), (3, .inl 0), (2, .inl (m0.1 34 0 2)), (0, .inr (.inr (.inl (some (34, 0))))), (1, .inl f)]) (st' := [.inl 1]) (m' := m2) (o := none) rfl trivial ?_
          refine ww_if (t := 124) rfl rfl (by decide) (fun (h49 : (1 : Int) = 0) => absurd h49 (by decide)) (fun (h49 : ¬ ((1 : Int) = 0)) => ?_)
          show wW (zK sc) zM257 104 [(6, .inl 1), (5, .inl 0), (4, .inl r29), (3, .inl 0), (2, .inl (m0.1 34 0 2)), (0, .inr (.inr (.inl (some (34, 0))))), (1, .inl f)] [] _ _ _
          refine ww_go 3 (pc' := 109) (L' := [(6, .inl 1), (5, .inl 0), (4, .inl r29), (3, .inl 0), (2, .inl (m0.1 34 0 2)), (0, .inr (.inr (.inl (some (34, 0))))), (1, .inl f)]) (st' := []) (m' := wuI m2 34 0 1 0) (o := some ((0 < 1))) rfl (show (0 < 1) from by omega) ?_
          obtain ⟨m50, hm50⟩ : ∃ zq9 : wm, zq9 = wuI m2 34 0 1 0 := ⟨_, rfl⟩
          rw [← hm50]
          have hGm50 : zB c m50 := by rw [hm50]; exact zB_wI rfl (show 0 ≤ (0 : Int) ∧ (0 : Int) ≤ 6 from by omega) hGm2
          have hFm50 : zfr (fun k i j => (k = 38) ∨ (k = 39) ∨ (k = 40) ∨ (k = 41) ∨ (k = 37) ∨ (k = 34 ∧ j = 0) ∨ (k = 34 ∧ j = 1) ∨ (k = 34 ∧ j = 2)) m0 m50 := by rw [hm50]; exact zfr_wI hFm2 (show (34 = 38) ∨ (34 = 39) ∨ (34 = 40) ∨ (34 = 41) ∨ (34 = 37) ∨ (34 = 34 ∧ 1 = 0) ∨ (34 = 34 ∧ 1 = 1) ∨ (34 = 34 ∧ 1 = 2) from Or.inr (Or.inr (Or.inr (Or.inr (Or.inr (Or.inr (Or.inl (⟨rfl, rfl⟩))))))))
          have s51 : m50.1 34 0 1 = (0 : Int) := by rw [hm50]; exact wuI_self
          have w52 : m50.1 34 0 0 = m2.1 34 0 0 := by rw [hm50]; exact wuI_nj (by omega)
          have w53 : m50.1 34 0 2 = m2.1 34 0 2 := by rw [hm50]; exact wuI_nj (by omega)
          have w54 : m50.1 37 0 f.toNat = m2.1 37 0 f.toNat := by rw [hm50]; rfl
          refine ww_go 2 (pc' := 111) (L' := [(6, .inl 1), (5, .inl 0), (4, .inl r29), (3, .inl 0), (2, .inl (m0.1 34 0 2)), (0, .inr (.inr (.inl (some (34, 0))))), (1, .inl f)]) (st' := [.inl 0, .inr (.inr (.inl (some (34, 0))))]) (m' := m50) (o := none) rfl trivial ?_
          refine ww_if (t := 118) rfl rfl (by decide) (fun (h55 : (0 : Int) = 0) => ?_) (fun (h55 : ¬ ((0 : Int) = 0)) => absurd (show (0 : Int) = 0 from by decide) h55)
          show wW (zK sc) zM257 118 [(6, .inl 1), (5, .inl 0), (4, .inl r29), (3, .inl 0), (2, .inl (m0.1 34 0 2)), (0, .inr (.inr (.inl (some (34, 0))))), (1, .inl f)] [.inr (.inr (.inl (some (34, 0))))] _ _ _
          refine ww_go 2 (pc' := 122) (L' := [(6, .inl 1), (5, .inl 0), (4, .inl r29), (3, .inl 0), (2, .inl (m0.1 34 0 2)), (0, .inr (.inr (.inl (some (34, 0))))), (1, .inl f)]) (st' := []) (m' := wuI m50 34 0 0 2) (o := some ((0 < 1))) rfl (show (0 < 1) from by omega) ?_
          obtain ⟨m56, hm56⟩ : ∃ zq9 : wm, zq9 = wuI m50 34 0 0 2 := ⟨_, rfl⟩
          rw [← hm56]
          have hGm56 : zB c m56 := by rw [hm56]; exact zB_wI rfl (show 0 ≤ (2 : Int) ∧ (2 : Int) ≤ 2 from by omega) hGm50
          have hFm56 : zfr (fun k i j => (k = 38) ∨ (k = 39) ∨ (k = 40) ∨ (k = 41) ∨ (k = 37) ∨ (k = 34 ∧ j = 0) ∨ (k = 34 ∧ j = 1) ∨ (k = 34 ∧ j = 2)) m0 m56 := by rw [hm56]; exact zfr_wI hFm50 (show (34 = 38) ∨ (34 = 39) ∨ (34 = 40) ∨ (34 = 41) ∨ (34 = 37) ∨ (34 = 34 ∧ 0 = 0) ∨ (34 = 34 ∧ 0 = 1) ∨ (34 = 34 ∧ 0 = 2) from Or.inr (Or.inr (Or.inr (Or.inr (Or.inr (Or.inl (⟨rfl, rfl⟩)))))))
          have s57 : m56.1 34 0 0 = (2 : Int) := by rw [hm56]; exact wuI_self
          have w58 : m56.1 34 0 1 = m50.1 34 0 1 := by rw [hm56]; exact wuI_nj (by omega)
          have w59 : m56.1 34 0 2 = m50.1 34 0 2 := by rw [hm56]; exact wuI_nj (by omega)
          have w60 : m56.1 37 0 f.toNat = m50.1 37 0 f.toNat := by rw [hm56]; rfl
          refine ww_go 1 (pc' := 123) (L' := [(6, .inl 1), (5, .inl 0), (4, .inl r29), (3, .inl 0), (2, .inl (m0.1 34 0 2)), (0, .inr (.inr (.inl (some (34, 0))))), (1, .inl f)]) (st' := [.inl 0]) (m' := m56) (o := none) rfl trivial ?_
          exact ww_rI rfl rfl ⟨_, rfl, rfl, zB_mono hGm56 (by omega), hFm56, by omega⟩
      · show wW (zK sc) zM257 61 [(4, .inl r29), (3, .inl 0), (2, .inl (m0.1 34 0 2)), (0, .inr (.inr (.inl (some (34, 0))))), (1, .inl f)] [] _ _ _
        refine ww_go 4 (pc' := 69) (L' := [(5, .inl 1), (4, .inl r29), (3, .inl 0), (2, .inl (m0.1 34 0 2)), (0, .inr (.inr (.inl (some (34, 0))))), (1, .inl f)]) (st' := [.inl 0]) (m' := m2) (o := none) rfl trivial ?_
        refine ww_if (t := 92) rfl rfl (by decide) (fun (h61 : (0 : Int) ≠ 0) => absurd h61 (by decide)) (fun (h61 : ¬ ((0 : Int) ≠ 0)) => ?_)
        show wW (zK sc) zM257 72 [(5, .inl 1), (4, .inl r29), (3, .inl 0), (2, .inl (m0.1 34 0 2)), (0, .inr (.inr (.inl (some (34, 0))))), (1, .inl f)] [] _ _ _
        refine ww_go 1 (pc' := 74) (L' := [(5, .inl 1), (4, .inl r29), (3, .inl 0), (2, .inl (m0.1 34 0 2)), (0, .inr (.inr (.inl (some (34, 0))))), (1, .inl f)]) (st' := [.inl 1]) (m' := m2) (o := none) rfl trivial ?_
        refine ww_if (t := 92) rfl rfl (by decide) (fun (h62 : (1 : Int) ≠ 0) => ?_) (fun (h62 : ¬ ((1 : Int) ≠ 0)) => absurd (show (1 : Int) ≠ 0 from by decide) h62)
        show wW (zK sc) zM257 92 [(5, .inl 1), (4, .inl r29), (3, .inl 0), (2, .inl (m0.1 34 0 2)), (0, .inr (.inr (.inl (some (34, 0))))), (1, .inl f)] [] _ _ _
        refine ww_go 3 (pc' := 96) (L' := [(6, .inl 0), (5, .inl 1), (4, .inl r29), (3, .inl 0), (2, .inl (m0.1 34 0 2)), (0, .inr (.inr (.inl (some (34, 0))))), (1, .inl f)]) (st' := [.inl 0]) (m' := m2) (o := none) rfl trivial ?_
        refine ww_if (t := 104) rfl rfl (by decide) (fun (h63 : (0 : Int) ≠ 0) => absurd h63 (by decide)) (fun (h63 : ¬ ((0 : Int) ≠ 0)) => ?_)
        show wW (zK sc) zM257 99 [(6, .inl 0), (5, .inl 1), (4, .inl r29), (3, .inl 0), (2, .inl (m0.1 34 0 2)), (0, .inr (.inr (.inl (some (34, 0))))), (1, .inl f)] [] _ _ _
        refine ww_go 1 (pc' := 101) (L' := [(6, .inl 0), (5, .inl 1), (4, .inl r29), (3, .inl 0), (2, .inl (m0.1 34 0 2)), (0, .inr (.inr (.inl (some (34, 0))))), (1, .inl f)]) (st' := [.inl 0]) (m' := m2) (o := none) rfl trivial ?_
        refine ww_if (t := 124) rfl rfl (by decide) (fun (h64 : (0 : Int) = 0) => ?_) (fun (h64 : ¬ ((0 : Int) = 0)) => absurd (show (0 : Int) = 0 from by decide) h64)
        show wW (zK sc) zM257 124 [(6, .inl 0), (5, .inl 1), (4, .inl r29), (3, .inl 0), (2, .inl (m0.1 34 0 2)), (0, .inr (.inr (.inl (some (34, 0))))), (1, .inl f)] [] _ _ _
        refine ww_go 3 (pc' := 129) (L' := [(6, .inl 0), (5, .inl 1), (4, .inl r29), (3, .inl 0), (2, .inl (m0.1 34 0 2)), (0, .inr (.inr (.inl (some (34, 0))))), (1, .inl f)]) (st' := []) (m' := wuI m2 34 0 0 0) (o := some ((0 < 1))) rfl (show (0 < 1) from by omega) ?_
        obtain ⟨m65, hm65⟩ : ∃ zq9 : wm, zq9 = wuI m2 34 0 0 0 := ⟨_, rfl⟩
        rw [← hm65]
        have hGm65 : zB c m65 := by rw [hm65]; exact zB_wI rfl (show 0 ≤ (0 : Int) ∧ (0 : Int) ≤ 2 from by omega) hGm2
        have hFm65 : zfr (fun k i j => (k = 38) ∨ (k = 39) ∨ (k = 40) ∨ (k = 41) ∨ (k = 37) ∨ (k = 34 ∧ j = 0) ∨ (k = 34 ∧ j = 1) ∨ (k = 34 ∧ j = 2)) m0 m65 := by rw [hm65]; exact zfr_wI hFm2 (show (34 = 38) ∨ (34 = 39) ∨ (34 = 40) ∨ (34 = 41) ∨ (34 = 37) ∨ (34 = 34 ∧ 0 = 0) ∨ (34 = 34 ∧ 0 = 1) ∨ (34 = 34 ∧ 0 = 2) from Or.inr (Or.inr (Or.inr (Or.inr (Or.inr (Or.inl (⟨rfl, rfl⟩)))))))
        have s66 : m65.1 34 0 0 = (0 : Int) := by rw [hm65]; exact wuI_self
        have w67 : m65.1 34 0 1 = m2.1 34 0 1 := by rw [hm65]; exact wuI_nj (by omega)
        have w68 : m65.1 34 0 2 = m2.1 34 0 2 := by rw [hm65]; exact wuI_nj (by omega)
        have w69 : m65.1 37 0 f.toNat = m2.1 37 0 f.toNat := by rw [hm65]; rfl
        refine ww_go 1 (pc' := 131) (L' := [(6, .inl 0), (5, .inl 1), (4, .inl r29), (3, .inl 0), (2, .inl (m0.1 34 0 2)), (0, .inr (.inr (.inl (some (34, 0))))), (1, .inl f)]) (st' := [.inl 1]) (m' := m65) (o := none) rfl trivial ?_
        refine ww_if (t := 180) rfl rfl (by decide) (fun (h70 : (1 : Int) ≠ 0) => ?_) (fun (h70 : ¬ ((1 : Int) ≠ 0)) => absurd (show (1 : Int) ≠ 0 from by decide) h70)
        show wW (zK sc) zM257 180 [(6, .inl 0), (5, .inl 1), (4, .inl r29), (3, .inl 0), (2, .inl (m0.1 34 0 2)), (0, .inr (.inr (.inl (some (34, 0))))), (1, .inl f)] [] _ _ _
        have b71 : 0 ≤ m65.1 34 0 1 ∧ m65.1 34 0 1 ≤ 6 := hGm65.1 34 _ rfl _ _
        refine ww_go 6 (pc' := 191) (L' := [(6, .inl 0), (5, .inl 1), (4, .inl r29), (3, .inl 0), (2, .inl (m0.1 34 0 2)), (0, .inr (.inr (.inl (some (34, 0))))), (1, .inl f)]) (st' := []) (m' := wuI m65 38 0 r29.toNat (m65.1 34 0 1)) (o := some ((0 < 1) ∧ (0 < 1) ∧ (0 < 1 ∧ 0 ≤ r29 ∧ r29 < ((12 : Nat) : Int)))) rfl (show (0 < 1) ∧ (0 < 1) ∧ (0 < 1 ∧ 0 ≤ r29 ∧ r29 < ((12 : Nat) : Int)) from by omega) ?_
        obtain ⟨m72, hm72⟩ : ∃ zq9 : wm, zq9 = wuI m65 38 0 r29.toNat (m65.1 34 0 1) := ⟨_, rfl⟩
        rw [← hm72]
        have hGm72 : zB c m72 := by rw [hm72]; exact zB_wI rfl (show 0 ≤ m65.1 34 0 1 ∧ m65.1 34 0 1 ≤ 6 from by omega) hGm65
        have hFm72 : zfr (fun k i j => (k = 38) ∨ (k = 39) ∨ (k = 40) ∨ (k = 41) ∨ (k = 37) ∨ (k = 34 ∧ j = 0) ∨ (k = 34 ∧ j = 1) ∨ (k = 34 ∧ j = 2)) m0 m72 := by rw [hm72]; exact zfr_wI hFm65 (show (38 = 38) ∨ (38 = 39) ∨ (38 = 40) ∨ (38 = 41) ∨ (38 = 37) ∨ (38 = 34 ∧ r29.toNat = 0) ∨ (38 = 34 ∧ r29.toNat = 1) ∨ (38 = 34 ∧ r29.toNat = 2) from Or.inl rfl)
        have s73 : m72.1 38 0 r29.toNat = m65.1 34 0 1 := by rw [hm72]; exact wuI_self
        have w74 : m72.1 34 0 0 = m65.1 34 0 0 := by rw [hm72]; rfl
        have w75 : m72.1 34 0 1 = m65.1 34 0 1 := by rw [hm72]; rfl
        have w76 : m72.1 34 0 2 = m65.1 34 0 2 := by rw [hm72]; rfl
        have w77 : m72.1 37 0 f.toNat = m65.1 37 0 f.toNat := by rw [hm72]; rfl
        refine ww_go 2 (pc' := 194) (L' := [(7, .inl 0), (6, .inl 0), (5, .inl 1), (4, .inl r29), (3, .inl 0), (2, .inl (m0.1 34 0 2)), (0, .inr (.inr (.inl (some (34, 0))))), (1, .inl f)]) (st' := []) (m' := m72) (o := none) rfl trivial ?_
        refine ww_sub (L := [(0, .inr (.inr (.inl (some (34, 0))))), (1, .inl f), (2, .inl (m0.1 34 0 2)), (4, .inl r29), (7, .inl 0)]) ⟨rfl, rfl, rfl, rfl, rfl, trivial⟩ rfl rfl ?_
        exact (zs257_l194 hc f hG h0 _) (m0.1 34 0 2) r29 0 m72 rfl (zB_mono hGm72 (by omega)) hFm72 (by omega) (by omega)
    · show wW (zK sc) zM257 26 [(2, .inl (m0.1 34 0 2)), (0, .inr (.inr (.inl (some (34, 0))))), (1, .inl f)] [] _ _ _
      refine ww_go 4 (pc' := 33) (L' := [(3, .inl 1), (2, .inl (m0.1 34 0 2)), (0, .inr (.inr (.inl (some (34, 0))))), (1, .inl f)]) (st' := [.inl 1]) (m' := m2) (o := none) rfl trivial ?_
      refine ww_if (t := 40) rfl rfl (by decide) (fun (h78 : (1 : Int) = 0) => absurd h78 (by decide)) (fun (h78 : ¬ ((1 : Int) = 0)) => ?_)
      show wW (zK sc) zM257 36 [(3, .inl 1), (2, .inl (m0.1 34 0 2)), (0, .inr (.inr (.inl (some (34, 0))))), (1, .inl f)] [] _ _ _
      refine ww_go 4 (pc' := 48) (L' := [(4, .inl 0), (3, .inl 1), (2, .inl (m0.1 34 0 2)), (0, .inr (.inr (.inl (some (34, 0))))), (1, .inl f)]) (st' := [.inl 1]) (m' := m2) (o := none) rfl trivial ?_
      refine ww_if (t := 65) rfl rfl (by decide) (fun (h79 : (1 : Int) ≠ 0) => ?_) (fun (h79 : ¬ ((1 : Int) ≠ 0)) => absurd (show (1 : Int) ≠ 0 from by decide) h79)
      show wW (zK sc) zM257 65 [(4, .inl 0), (3, .inl 1), (2, .inl (m0.1 34 0 2)), (0, .inr (.inr (.inl (some (34, 0))))), (1, .inl f)] [] _ _ _
      refine ww_go 3 (pc' := 69) (L' := [(5, .inl 0), (4, .inl 0), (3, .inl 1), (2, .inl (m0.1 34 0 2)), (0, .inr (.inr (.inl (some (34, 0))))), (1, .inl f)]) (st' := [.inl 1]) (m' := m2) (o := none) rfl trivial ?_
      refine ww_if (t := 92) rfl rfl (by decide) (fun (h80 : (1 : Int) ≠ 0) => ?_) (fun (h80 : ¬ ((1 : Int) ≠ 0)) => absurd (show (1 : Int) ≠ 0 from by decide) h80)
      show wW (zK sc) zM257 92 [(5, .inl 0), (4, .inl 0), (3, .inl 1), (2, .inl (m0.1 34 0 2)), (0, .inr (.inr (.inl (some (34, 0))))), (1, .inl f)] [] _ _ _
      refine ww_go 3 (pc' := 96) (L' := [(6, .inl 0), (5, .inl 0), (4, .inl 0), (3, .inl 1), (2, .inl (m0.1 34 0 2)), (0, .inr (.inr (.inl (some (34, 0))))), (1, .inl f)]) (st' := [.inl 1]) (m' := m2) (o := none) rfl trivial ?_
      refine ww_if (t := 104) rfl rfl (by decide) (fun (h81 : (1 : Int) ≠ 0) => ?_) (fun (h81 : ¬ ((1 : Int) ≠ 0)) => absurd (show (1 : Int) ≠ 0 from by decide) h81)
      show wW (zK sc) zM257 104 [(6, .inl 0), (5, .inl 0), (4, .inl 0), (3, .inl 1), (2, .inl (m0.1 34 0 2)), (0, .inr (.inr (.inl (some (34, 0))))), (1, .inl f)] [] _ _ _
      refine ww_go 3 (pc' := 109) (L' := [(6, .inl 0), (5, .inl 0), (4, .inl 0), (3, .inl 1), (2, .inl (m0.1 34 0 2)), (0, .inr (.inr (.inl (some (34, 0))))), (1, .inl f)]) (st' := []) (m' := wuI m2 34 0 1 0) (o := some ((0 < 1))) rfl (show (0 < 1) from by omega) ?_
      obtain ⟨m82, hm82⟩ : ∃ zq9 : wm, zq9 = wuI m2 34 0 1 0 := ⟨_, rfl⟩
      rw [← hm82]
      have hGm82 : zB c m82 := by rw [hm82]; exact zB_wI rfl (show 0 ≤ (0 : Int) ∧ (0 : Int) ≤ 6 from by omega) hGm2
      have hFm82 : zfr (fun k i j => (k = 38) ∨ (k = 39) ∨ (k = 40) ∨ (k = 41) ∨ (k = 37) ∨ (k = 34 ∧ j = 0) ∨ (k = 34 ∧ j = 1) ∨ (k = 34 ∧ j = 2)) m0 m82 := by rw [hm82]; exact zfr_wI hFm2 (show (34 = 38) ∨ (34 = 39) ∨ (34 = 40) ∨ (34 = 41) ∨ (34 = 37) ∨ (34 = 34 ∧ 1 = 0) ∨ (34 = 34 ∧ 1 = 1) ∨ (34 = 34 ∧ 1 = 2) from Or.inr (Or.inr (Or.inr (Or.inr (Or.inr (Or.inr (Or.inl (⟨rfl, rfl⟩))))))))
      have s83 : m82.1 34 0 1 = (0 : Int) := by rw [hm82]; exact wuI_self
      have w84 : m82.1 34 0 0 = m2.1 34 0 0 := by rw [hm82]; exact wuI_nj (by omega)
      have w85 : m82.1 34 0 2 = m2.1 34 0 2 := by rw [hm82]; exact wuI_nj (by omega)
      have w86 : m82.1 37 0 f.toNat = m2.1 37 0 f.toNat := by rw [hm82]; rfl
      refine ww_go 2 (pc' := 111) (L' := [(6, .inl 0), (5, .inl 0), (4, .inl 0), (3, .inl 1), (2, .inl (m0.1 34 0 2)), (0, .inr (.inr (.inl (some (34, 0))))), (1, .inl f)]) (st' := [.inl 1, .inr (.inr (.inl (some (34, 0))))]) (m' := m82) (o := none) rfl trivial ?_
      refine ww_if (t := 118) rfl rfl (by decide) (fun (h87 : (1 : Int) = 0) => absurd h87 (by decide)) (fun (h87 : ¬ ((1 : Int) = 0)) => ?_)
      show wW (zK sc) zM257 114 [(6, .inl 0), (5, .inl 0), (4, .inl 0), (3, .inl 1), (2, .inl (m0.1 34 0 2)), (0, .inr (.inr (.inl (some (34, 0))))), (1, .inl f)] [.inr (.inr (.inl (some (34, 0))))] _ _ _
      refine ww_go 3 (pc' := 122) (L' := [(6, .inl 0), (5, .inl 0), (4, .inl 0), (3, .inl 1), (2, .inl (m0.1 34 0 2)), (0, .inr (.inr (.inl (some (34, 0))))), (1, .inl f)]) (st' := []) (m' := wuI m82 34 0 0 1) (o := some ((0 < 1))) rfl (show (0 < 1) from by omega) ?_
      obtain ⟨m88, hm88⟩ : ∃ zq9 : wm, zq9 = wuI m82 34 0 0 1 := ⟨_, rfl⟩
      rw [← hm88]
      have hGm88 : zB c m88 := by rw [hm88]; exact zB_wI rfl (show 0 ≤ (1 : Int) ∧ (1 : Int) ≤ 2 from by omega) hGm82
      have hFm88 : zfr (fun k i j => (k = 38) ∨ (k = 39) ∨ (k = 40) ∨ (k = 41) ∨ (k = 37) ∨ (k = 34 ∧ j = 0) ∨ (k = 34 ∧ j = 1) ∨ (k = 34 ∧ j = 2)) m0 m88 := by rw [hm88]; exact zfr_wI hFm82 (show (34 = 38) ∨ (34 = 39) ∨ (34 = 40) ∨ (34 = 41) ∨ (34 = 37) ∨ (34 = 34 ∧ 0 = 0) ∨ (34 = 34 ∧ 0 = 1) ∨ (34 = 34 ∧ 0 = 2) from Or.inr (Or.inr (Or.inr (Or.inr (Or.inr (Or.inl (⟨rfl, rfl⟩)))))))
      have s89 : m88.1 34 0 0 = (1 : Int) := by rw [hm88]; exact wuI_self
      have w90 : m88.1 34 0 1 = m82.1 34 0 1 := by rw [hm88]; exact wuI_nj (by omega)
      have w91 : m88.1 34 0 2 = m82.1 34 0 2 := by rw [hm88]; exact wuI_nj (by omega)
      have w92 : m88.1 37 0 f.toNat = m82.1 37 0 f.toNat := by rw [hm88]; rfl
      refine ww_go 1 (pc' := 123) (L' := [(6, .inl 0), (5, .inl 0), (4, .inl 0), (3, .inl 1), (2, .inl (m0.1 34 0 2)), (0, .inr (.inr (.inl (some (34, 0))))), (1, .inl f)]) (st' := [.inl 0]) (m' := m88) (o := none) rfl trivial ?_
      exact ww_rI rfl rfl ⟨_, rfl, rfl, zB_mono hGm88 (by omega), hFm88, by omega⟩
set_option maxRecDepth 8000 in
theorem zs236_l83 {sc : xSc} {n : Nat × Nat} {m0 : wm} {c : Int} (hc : 0 ≤ c ∧ c ≤ 1000000) (f : Int) (hG : zB c m0) (h0 : -2147483648 ≤ f ∧ f ≤ 2147483647) : ∀ (d : Nat), ∀ (i : Int) (m : wm), (12 - i).toNat = d → zB c m → zfr (fun k i j => (k = 38) ∨ (k = 39) ∨ (k = 40) ∨ (k = 41) ∨ (k = 37) ∨ (k = 34 ∧ j = 0) ∨ (k = 34 ∧ j = 1)) m0 m → (0 ≤ f ∧ f ≤ 1 ∧ 0 ≤ i ∧ i ≤ 12 ∧ 0 ≤ m.1 37 0 f.toNat ∧ m.1 37 0 f.toNat ≤ 5) → (m.1 34 0 1 = 0 ∧ m.1 34 0 2 = m0.1 34 0 2) →  wW (zK sc) zM236 83 [(0, .inr (.inr (.inl (some (34, 0))))), (1, .inl f), (5, .inl i)] [] n m (wr (fun vv n1 m1 => ∃ r : Int, vv = some (.inl r) ∧ n = n1 ∧ zB c m1 ∧ zfr (fun k i j => (k = 38) ∨ (k = 39) ∨ (k = 40) ∨ (k = 41) ∨ (k = 37) ∨ (k = 34 ∧ j = 0) ∨ (k = 34 ∧ j = 1)) m0 m1 ∧ (m1.1 34 0 1 = 0 ∧ m1.1 34 0 2 = m0.1 34 0 2))) := by
  intro d
  induction d using Nat.strongRecOn with
  | ind d ih =>
    intro i m hd hGm hFm hi hm
    have b0 : 0 ≤ m0.1 37 0 f.toNat ∧ m0.1 37 0 f.toNat ≤ 6 := hG.1 37 _ rfl _ _
    have b1 : 0 ≤ m.1 37 0 f.toNat ∧ m.1 37 0 f.toNat ≤ 6 := hGm.1 37 _ rfl _ _
    refine ww_go 9 (pc' := 96) (L' := [(0, .inr (.inr (.inl (some (34, 0))))), (1, .inl f), (5, .inl i)]) (st' := [.inl ((6 * f) + (m.1 37 0 f.toNat)), .inl i]) (m' := m) (o := some ((0 < 1) ∧ (0 < 1 ∧ 0 ≤ f ∧ f < ((2 : Nat) : Int)))) rfl (show (0 < 1) ∧ (0 < 1 ∧ 0 ≤ f ∧ f < ((2 : Nat) : Int)) from by omega) ?_
    refine ww_ic (t := 115) rfl rfl (by omega) (fun (h2 : (6 * f) + (m.1 37 0 f.toNat) ≤ i) => ?_) (fun (h2 : ¬ ((6 * f) + (m.1 37 0 f.toNat) ≤ i)) => ?_)
    · show wW (zK sc) zM236 115 [(0, .inr (.inr (.inl (some (34, 0))))), (1, .inl f), (5, .inl i)] [] _ _ _
      refine ww_go 1 (pc' := 116) (L' := [(0, .inr (.inr (.inl (some (34, 0))))), (1, .inl f), (5, .inl i)]) (st' := [.inl 1]) (m' := m) (o := none) rfl trivial ?_
      exact ww_rB rfl rfl (by omega) ⟨_, rfl, rfl, zB_mono hGm (by omega), hFm, by omega⟩
    · show wW (zK sc) zM236 99 [(0, .inr (.inr (.inl (some (34, 0))))), (1, .inl f), (5, .inl i)] [] _ _ _
      refine ww_go 5 (pc' := 106) (L' := [(0, .inr (.inr (.inl (some (34, 0))))), (1, .inl f), (5, .inl i)]) (st' := [.inl i, .inl (i + 1), .inr (.inr (.inl (some (34, 0))))]) (m' := m) (o := none) rfl trivial ?_
      refine ww_call (vs := [.inr (.inr (.inl (some (34, 0)))), .inl (i + 1), .inl i]) (r := []) (p := 0 < 1) rfl rfl rfl rfl (show 0 < 1 from by omega) (zs224 (c := c) (by omega) (i + 1) i hGm (by omega)) ?_
      rintro _ _ m5 ⟨rfl, rfl, hGm5, hEm5, hr4⟩
      have hFm5 : zfr (fun k i j => (k = 38) ∨ (k = 39) ∨ (k = 40) ∨ (k = 41) ∨ (k = 37) ∨ (k = 34 ∧ j = 0) ∨ (k = 34 ∧ j = 1)) m0 m5 := zfr_tr hFm hEm5 (fun k i j z => Or.elim z (fun z => Or.inl z) (fun z => Or.elim z (fun z => Or.inr (Or.inl z)) (fun z => Or.elim z (fun z => Or.inr (Or.inr (Or.inl z))) (fun z => Or.inr (Or.inr (Or.inr (Or.inl z)))))))
      have w6 : m5.1 34 0 0 = m.1 34 0 0 := (hEm5 34 0 0 (show ¬ ((34 = 38) ∨ (34 = 39) ∨ (34 = 40) ∨ (34 = 41)) from by omega)).1
      have w7 : m5.1 34 0 1 = m.1 34 0 1 := (hEm5 34 0 1 (show ¬ ((34 = 38) ∨ (34 = 39) ∨ (34 = 40) ∨ (34 = 41)) from by omega)).1
      have w8 : m5.1 34 0 2 = m.1 34 0 2 := (hEm5 34 0 2 (show ¬ ((34 = 38) ∨ (34 = 39) ∨ (34 = 40) ∨ (34 = 41)) from by omega)).1
      have w9 : m5.1 37 0 f.toNat = m.1 37 0 f.toNat := (hEm5 37 0 f.toNat (show ¬ ((37 = 38) ∨ (37 = 39) ∨ (37 = 40) ∨ (37 = 41)) from by omega)).1
      show wW (zK sc) zM236 109 [(0, .inr (.inr (.inl (some (34, 0))))), (1, .inl f), (5, .inl i)] [] _ _ _
      refine ww_go 2 (pc' := 83) (L' := [(5, .inl (i + 1)), (0, .inr (.inr (.inl (some (34, 0))))), (1, .inl f)]) (st' := []) (m' := m5) (o := none) rfl trivial ?_
      refine ww_sub (L := [(0, .inr (.inr (.inl (some (34, 0))))), (1, .inl f), (5, .inl (i + 1))]) ⟨rfl, rfl, rfl, trivial⟩ rfl rfl ?_
      exact (ih _ (by omega)) (i + 1) m5 rfl (zB_mono hGm5 (by omega)) hFm5 (by omega) (by omega)
set_option maxRecDepth 8000 in
/-- Mo.remove -/
theorem zs236 {sc : xSc} {n : Nat × Nat} {m0 : wm} {c : Int} (hc : 0 ≤ c ∧ c ≤ 1000000) (f : Int) (hG : zB c m0) (h0 : -2147483648 ≤ f ∧ f ≤ 2147483647) : wX (zK sc) 236 [.inr (.inr (.inl (some (34, 0)))), .inl f] n m0 (wr (fun vv n1 m1 => ∃ r : Int, vv = some (.inl r) ∧ n = n1 ∧ zB c m1 ∧ zfr (fun k i j => (k = 38) ∨ (k = 39) ∨ (k = 40) ∨ (k = 41) ∨ (k = 37) ∨ (k = 34 ∧ j = 0) ∨ (k = 34 ∧ j = 1)) m0 m1 ∧ (m1.1 34 0 1 = 0 ∧ m1.1 34 0 2 = m0.1 34 0 2))) := by
  refine wX_of (N := zM236) rfl (Nat.le_of_ble_eq_true rfl) ?_
  show wW (zK sc) zM236 0 [(0, .inr (.inr (.inl (some (34, 0))))), (1, .inl f)] [] n m0 _
  have hF : zfr (fun k i j => (k = 38) ∨ (k = 39) ∨ (k = 40) ∨ (k = 41) ∨ (k = 37) ∨ (k = 34 ∧ j = 0) ∨ (k = 34 ∧ j = 1)) m0 m0 := zfr_rf
  have b0 : 0 ≤ m0.1 37 0 f.toNat ∧ m0.1 37 0 f.toNat ≤ 6 := hG.1 37 _ rfl _ _
  refine ww_go 3 (pc' := 3) (L' := [(0, .inr (.inr (.inl (some (34, 0))))), (1, .inl f)]) (st' := [.inl 1, .inl 0, .inl f]) (m' := m0) (o := none) rfl trivial ?_
  refine ww_call (vs := [.inl f, .inl 0, .inl 1]) (r := []) (p := True) rfl rfl rfl rfl trivial (zs207 f 0 1 (by omega)) ?_
  rintro _ _ _ ⟨r1, rfl, rfl, rfl, hr2⟩
  show wW (zK sc) zM236 6 [(0, .inr (.inr (.inl (some (34, 0))))), (1, .inl f)] [.inl r1] _ _ _
  refine ww_if (t := 13) rfl rfl (by omega) (fun (h3 : r1 ≠ 0) => ?_) (fun (h3 : ¬ (r1 ≠ 0)) => ?_)
  · show wW (zK sc) zM236 13 [(0, .inr (.inr (.inl (some (34, 0))))), (1, .inl f)] [] _ _ _
    refine ww_go 3 (pc' := 16) (L' := [(2, .inl 0), (0, .inr (.inr (.inl (some (34, 0))))), (1, .inl f)]) (st' := [.inl 0]) (m' := m0) (o := none) rfl trivial ?_
    refine ww_if (t := 23) rfl rfl (by decide) (fun (h4 : (0 : Int) = 0) => ?_) (fun (h4 : ¬ ((0 : Int) = 0)) => absurd (show (0 : Int) = 0 from by decide) h4)
    show wW (zK sc) zM236 23 [(2, .inl 0), (0, .inr (.inr (.inl (some (34, 0))))), (1, .inl f)] [] _ _ _
    refine ww_go 2 (pc' := 25) (L' := [(2, .inl 0), (0, .inr (.inr (.inl (some (34, 0))))), (1, .inl f)]) (st' := [.inl f, .inr (.inr (.inl (some (34, 0))))]) (m' := m0) (o := none) rfl trivial ?_
    refine ww_call (vs := [.inr (.inr (.inl (some (34, 0)))), .inl f]) (r := []) (p := 0 < 1) rfl rfl rfl rfl (show 0 < 1 from by omega) (zs230 (c := c) (by omega) f hG (by omega)) ?_
    rintro _ _ _ ⟨r5, rfl, rfl, rfl, hr6⟩
    show wW (zK sc) zM236 28 [(2, .inl 0), (0, .inr (.inr (.inl (some (34, 0))))), (1, .inl f)] [.inl r5] _ _ _
    refine ww_go 2 (pc' := 30) (L' := [(3, .inl r5), (2, .inl 0), (0, .inr (.inr (.inl (some (34, 0))))), (1, .inl f)]) (st' := [.inl 0]) (m' := m0) (o := none) rfl trivial ?_
    refine ww_if (t := 46) rfl rfl (by decide) (fun (h7 : (0 : Int) ≠ 0) => absurd h7 (by decide)) (fun (h7 : ¬ ((0 : Int) ≠ 0)) => ?_)
    show wW (zK sc) zM236 33 [(3, .inl r5), (2, .inl 0), (0, .inr (.inr (.inl (some (34, 0))))), (1, .inl f)] [] _ _ _
    refine ww_go 3 (pc' := 36) (L' := [(3, .inl r5), (2, .inl 0), (0, .inr (.inr (.inl (some (34, 0))))), (1, .inl f)]) (st' := [.inl r5, .inl f, .inr (.inr (.inl (some (34, 0))))]) (m' := m0) (o := none) rfl trivial ?_
    refine ww_call (vs := [.inr (.inr (.inl (some (34, 0)))), .inl f, .inl r5]) (r := []) (p := 0 < 1) rfl rfl rfl rfl (show 0 < 1 from by omega) (zs214 (c := c) (by omega) f r5 hG (by omega)) ?_
    rintro _ _ _ ⟨r8, rfl, rfl, rfl, hr9⟩
    show wW (zK sc) zM236 39 [(3, .inl r5), (2, .inl 0), (0, .inr (.inr (.inl (some (34, 0))))), (1, .inl f)] [.inl r8] _ _ _
    refine ww_if (t := 46) rfl rfl (by omega) (fun (h10 : r8 = 0) => ?_) (fun (h10 : ¬ (r8 = 0)) => ?_)
    · show wW (zK sc) zM236 46 [(3, .inl r5), (2, .inl 0), (0, .inr (.inr (.inl (some (34, 0))))), (1, .inl f)] [] _ _ _
      refine ww_go 5 (pc' := 54) (L' := [(4, .inl 0), (3, .inl r5), (2, .inl 0), (0, .inr (.inr (.inl (some (34, 0))))), (1, .inl f)]) (st' := []) (m' := wuI m0 34 0 1 0) (o := some ((0 < 1))) rfl (show (0 < 1) from by omega) ?_
      obtain ⟨m11, hm11⟩ : ∃ zq9 : wm, zq9 = wuI m0 34 0 1 0 := ⟨_, rfl⟩
      rw [← hm11]
      have hGm11 : zB c m11 := by rw [hm11]; exact zB_wI rfl (show 0 ≤ (0 : Int) ∧ (0 : Int) ≤ 6 from by omega) hG
      have hFm11 : zfr (fun k i j => (k = 38) ∨ (k = 39) ∨ (k = 40) ∨ (k = 41) ∨ (k = 37) ∨ (k = 34 ∧ j = 0) ∨ (k = 34 ∧ j = 1)) m0 m11 := by rw [hm11]; exact zfr_wI hF (show (34 = 38) ∨ (34 = 39) ∨ (34 = 40) ∨ (34 = 41) ∨ (34 = 37) ∨ (34 = 34 ∧ 1 = 0) ∨ (34 = 34 ∧ 1 = 1) from Or.inr (Or.inr (Or.inr (Or.inr (Or.inr (Or.inr (⟨rfl, rfl⟩)))))))
      have s12 : m11.1 34 0 1 = (0 : Int) := by rw [hm11]; exact wuI_self
      have w13 : m11.1 34 0 0 = m0.1 34 0 0 := by rw [hm11]; exact wuI_nj (by omega)
      have w14 : m11.1 34 0 2 = m0.1 34 0 2 := by rw [hm11]; exact wuI_nj (by omega)
      have w15 : m11.1 37 0 f.toNat = m0.1 37 0 f.toNat := by rw [hm11]; rfl
      refine ww_go 3 (pc' := 57) (L' := [(4, .inl 0), (3, .inl r5), (2, .inl 0), (0, .inr (.inr (.inl (some (34, 0))))), (1, .inl f)]) (st' := [.inl 1, .inl 0, .inr (.inr (.inl (some (34, 0))))]) (m' := m11) (o := none) rfl trivial ?_
      refine ww_call (vs := [.inr (.inr (.inl (some (34, 0)))), .inl 0, .inl 1]) (r := []) (p := 0 < 1) rfl rfl rfl rfl (show 0 < 1 from by omega) (zs196 (c := c) (by omega) 0 1 hGm11 (by omega)) ?_
      rintro _ _ m18 ⟨r16, rfl, rfl, hGm18, hEm18, hr17⟩
      have hFm18 : zfr (fun k i j => (k = 38) ∨ (k = 39) ∨ (k = 40) ∨ (k = 41) ∨ (k = 37) ∨ (k = 34 ∧ j = 0) ∨ (k = 34 ∧ j = 1)) m0 m18 := zfr_tr hFm11 hEm18 (fun k i j z => Or.inr (Or.inr (Or.inr (Or.inr (Or.inr (Or.inl z))))))
      have w19 : m18.1 34 0 1 = m11.1 34 0 1 := (hEm18 34 0 1 (show ¬ ((34 = 34 ∧ 1 = 0)) from by omega)).1
      have w20 : m18.1 34 0 2 = m11.1 34 0 2 := (hEm18 34 0 2 (show ¬ ((34 = 34 ∧ 2 = 0)) from by omega)).1
      have w21 : m18.1 37 0 f.toNat = m11.1 37 0 f.toNat := (hEm18 37 0 f.toNat (show ¬ ((37 = 34 ∧ f.toNat = 0)) from by omega)).1
      show wW (zK sc) zM236 60 [(4, .inl 0), (3, .inl r5), (2, .inl 0), (0, .inr (.inr (.inl (some (34, 0))))), (1, .inl f)] [.inl r16] _ _ _
      refine ww_if (t := 68) rfl rfl (by omega) (fun (h22 : r16 ≠ 0) => ?_) (fun (h22 : ¬ (r16 ≠ 0)) => ?_)
      · show wW (zK sc) zM236 68 [(4, .inl 0), (3, .inl r5), (2, .inl 0), (0, .inr (.inr (.inl (some (34, 0))))), (1, .inl f)] [] _ _ _
        refine ww_go 1 (pc' := 69) (L' := [(4, .inl 0), (3, .inl r5), (2, .inl 0), (0, .inr (.inr (.inl (some (34, 0))))), (1, .inl f)]) (st' := [.inl 0]) (m' := m18) (o := none) rfl trivial ?_
        exact ww_rB rfl rfl (by omega) ⟨_, rfl, rfl, zB_mono hGm18 (by omega), hFm18, by omega⟩
      · show wW (zK sc) zM236 63 [(4, .inl 0), (3, .inl r5), (2, .inl 0), (0, .inr (.inr (.inl (some (34, 0))))), (1, .inl f)] [] _ _ _
        refine ww_go 1 (pc' := 65) (L' := [(4, .inl 0), (3, .inl r5), (2, .inl 0), (0, .inr (.inr (.inl (some (34, 0))))), (1, .inl f)]) (st' := [.inl 0]) (m' := m18) (o := none) rfl trivial ?_
        refine ww_if (t := 70) rfl rfl (by decide) (fun (h23 : (0 : Int) ≠ 0) => absurd h23 (by decide)) (fun (h23 : ¬ ((0 : Int) ≠ 0)) => ?_)
        show wW (zK sc) zM236 68 [(4, .inl 0), (3, .inl r5), (2, .inl 0), (0, .inr (.inr (.inl (some (34, 0))))), (1, .inl f)] [] _ _ _
        refine ww_go 1 (pc' := 69) (L' := [(4, .inl 0), (3, .inl r5), (2, .inl 0), (0, .inr (.inr (.inl (some (34, 0))))), (1, .inl f)]) (st' := [.inl 0]) (m' := m18) (o := none) rfl trivial ?_
        exact ww_rB rfl rfl (by omega) ⟨_, rfl, rfl, zB_mono hGm18 (by omega), hFm18, by omega⟩
    · show wW (zK sc) zM236 42 [(3, .inl r5), (2, .inl 0), (0, .inr (.inr (.inl (some (34, 0))))), (1, .inl f)] [] _ _ _
      refine ww_go 6 (pc' := 54) (L' := [(4, .inl 1), (3, .inl r5), (2, .inl 0), (0, .inr (.inr (.inl (some (34, 0))))), (1, .inl f)]) (st' := []) (m' := wuI m0 34 0 1 0) (o := some ((0 < 1))) rfl (show (0 < 1) from by omega) ?_
      obtain ⟨m24, hm24⟩ : ∃ zq9 : wm, zq9 = wuI m0 34 0 1 0 := ⟨_, rfl⟩
      rw [← hm24]
      have hGm24 : zB c m24 := by rw [hm24]; exact zB_wI rfl (show 0 ≤ (0 : Int) ∧ (0 : Int) ≤ 6 from by omega) hG
      have hFm24 : zfr (fun k i j => (k = 38) ∨ (k = 39) ∨ (k = 40) ∨ (k = 41) ∨ (k = 37) ∨ (k = 34 ∧ j = 0) ∨ (k = 34 ∧ j = 1)) m0 m24 := by rw [hm24]; exact zfr_wI hF (show (34 = 38) ∨ (34 = 39) ∨ (34 = 40) ∨ (34 = 41) ∨ (34 = 37) ∨ (34 = 34 ∧ 1 = 0) ∨ (34 = 34 ∧ 1 = 1) from Or.inr (Or.inr (Or.inr (Or.inr (Or.inr (Or.inr (⟨rfl, rfl⟩)))))))
      have s25 : m24.1 34 0 1 = (0 : Int) := by rw [hm24]; exact wuI_self
      have w26 : m24.1 34 0 0 = m0.1 34 0 0 := by rw [hm24]; exact wuI_nj (by omega)
      have w27 : m24.1 34 0 2 = m0.1 34 0 2 := by rw [hm24]; exact wuI_nj (by omega)
      have w28 : m24.1 37 0 f.toNat = m0.1 37 0 f.toNat := by rw [hm24]; rfl
      refine ww_go 3 (pc' := 57) (L' := [(4, .inl 1), (3, .inl r5), (2, .inl 0), (0, .inr (.inr (.inl (some (34, 0))))), (1, .inl f)]) (st' := [.inl 1, .inl 0, .inr (.inr (.inl (some (34, 0))))]) (m' := m24) (o := none) rfl trivial ?_
      refine ww_call (vs := [.inr (.inr (.inl (some (34, 0)))), .inl 0, .inl 1]) (r := []) (p := 0 < 1) rfl rfl rfl rfl (show 0 < 1 from by omega) (zs196 (c := c) (by omega) 0 1 hGm24 (by omega)) ?_
      rintro _ _ m31 ⟨r29, rfl, rfl, hGm31, hEm31, hr30⟩
      have hFm31 : zfr (fun k i j => (k = 38) ∨ (k = 39) ∨ (k = 40) ∨ (k = 41) ∨ (k = 37) ∨ (k = 34 ∧ j = 0) ∨ (k = 34 ∧ j = 1)) m0 m31 := zfr_tr hFm24 hEm31 (fun k i j z => Or.inr (Or.inr (Or.inr (Or.inr (Or.inr (Or.inl z))))))
      have w32 : m31.1 34 0 1 = m24.1 34 0 1 := (hEm31 34 0 1 (show ¬ ((34 = 34 ∧ 1 = 0)) from by omega)).1
      have w33 : m31.1 34 0 2 = m24.1 34 0 2 := (hEm31 34 0 2 (show ¬ ((34 = 34 ∧ 2 = 0)) from by omega)).1
      have w34 : m31.1 37 0 f.toNat = m24.1 37 0 f.toNat := (hEm31 37 0 f.toNat (show ¬ ((37 = 34 ∧ f.toNat = 0)) from by omega)).1
      show wW (zK sc) zM236 60 [(4, .inl 1), (3, .inl r5), (2, .inl 0), (0, .inr (.inr (.inl (some (34, 0))))), (1, .inl f)] [.inl r29] _ _ _
      refine ww_if (t := 68) rfl rfl (by omega) (fun (h35 : r29 ≠ 0) => ?_) (fun (h35 : ¬ (r29 ≠ 0)) => ?_)
      · show wW (zK sc) zM236 68 [(4, .inl 1), (3, .inl r5), (2, .inl 0), (0, .inr (.inr (.inl (some (34, 0))))), (1, .inl f)] [] _ _ _
        refine ww_go 1 (pc' := 69) (L' := [(4, .inl 1), (3, .inl r5), (2, .inl 0), (0, .inr (.inr (.inl (some (34, 0))))), (1, .inl f)]) (st' := [.inl 0]) (m' := m31) (o := none) rfl trivial ?_
        exact ww_rB rfl rfl (by omega) ⟨_, rfl, rfl, zB_mono hGm31 (by omega), hFm31, by omega⟩
      · show wW (zK sc) zM236 63 [(4, .inl 1), (3, .inl r5), (2, .inl 0), (0, .inr (.inr (.inl (some (34, 0))))), (1, .inl f)] [] _ _ _
        refine ww_go 1 (pc' := 65) (L' := [(4, .inl 1), (3, .inl r5), (2, .inl 0), (0, .inr (.inr (.inl (some (34, 0))))), (1, .inl f)]) (st' := [.inl 1]) (m' := m31) (o := none) rfl trivial ?_
        refine ww_if (t := 70) rfl rfl (by decide) (fun (h36 : (1 : Int) ≠ 0) => ?_) (fun (h36 : ¬ ((1 : Int) ≠ 0)) => absurd (show (1 : Int) ≠ 0 from by decide) h36)
        show wW (zK sc) zM236 70 [(4, .inl 1), (3, .inl r5), (2, .inl 0), (0, .inr (.inr (.inl (some (34, 0))))), (1, .inl f)] [] _ _ _
        have b37 : 0 ≤ m31.1 37 0 f.toNat ∧ m31.1 37 0 f.toNat ≤ 6 := hGm31.1 37 _ rfl _ _
        refine ww_go 8 (pc' := 80) (L' := [(4, .inl 1), (3, .inl r5), (2, .inl 0), (0, .inr (.inr (.inl (some (34, 0))))), (1, .inl f)]) (st' := []) (m' := wuI m31 37 0 f.toNat ((m31.1 37 0 f.toNat) - 1)) (o := some ((0 < 1) ∧ (0 < 1 ∧ 0 ≤ f ∧ f < ((2 : Nat) : Int)) ∧ (0 < 1 ∧ 0 ≤ f ∧ f < ((2 : Nat) : Int)))) rfl (show (0 < 1) ∧ (0 < 1 ∧ 0 ≤ f ∧ f < ((2 : Nat) : Int)) ∧ (0 < 1 ∧ 0 ≤ f ∧ f < ((2 : Nat) : Int)) from by omega) ?_
        obtain ⟨m38, hm38⟩ : ∃ zq9 : wm, zq9 = wuI m31 37 0 f.toNat ((m31.1 37 0 f.toNat) - 1) := ⟨_, rfl⟩
        rw [← hm38]
        have hGm38 : zB c m38 := by rw [hm38]; exact zB_wI rfl (show 0 ≤ (m31.1 37 0 f.toNat) - 1 ∧ (m31.1 37 0 f.toNat) - 1 ≤ 6 from by omega) hGm31
        have hFm38 : zfr (fun k i j => (k = 38) ∨ (k = 39) ∨ (k = 40) ∨ (k = 41) ∨ (k = 37) ∨ (k = 34 ∧ j = 0) ∨ (k = 34 ∧ j = 1)) m0 m38 := by rw [hm38]; exact zfr_wI hFm31 (show (37 = 38) ∨ (37 = 39) ∨ (37 = 40) ∨ (37 = 41) ∨ (37 = 37) ∨ (37 = 34 ∧ f.toNat = 0) ∨ (37 = 34 ∧ f.toNat = 1) from Or.inr (Or.inr (Or.inr (Or.inr (Or.inl rfl)))))
        have s39 : m38.1 37 0 f.toNat = (m31.1 37 0 f.toNat) - 1 := by rw [hm38]; exact wuI_self
        have w40 : m38.1 34 0 0 = m31.1 34 0 0 := by rw [hm38]; rfl
        have w41 : m38.1 34 0 1 = m31.1 34 0 1 := by rw [hm38]; rfl
        have w42 : m38.1 34 0 2 = m31.1 34 0 2 := by rw [hm38]; rfl
        refine ww_go 2 (pc' := 83) (L' := [(5, .inl r5), (4, .inl 1), (3, .inl r5), (2, .inl 0), (0, .inr (.inr (.inl (some (34, 0))))), (1, .inl f)]) (st' := []) (m' := m38) (o := none) rfl trivial ?_
        refine ww_sub (L := [(0, .inr (.inr (.inl (some (34, 0))))), (1, .inl f), (5, .inl r5)]) ⟨rfl, rfl, rfl, trivial⟩ rfl rfl ?_
        exact (zs236_l83 hc f hG h0 _) r5 m38 rfl (zB_mono hGm38 (by omega)) hFm38 (by omega) (by omega)
  · show wW (zK sc) zM236 9 [(0, .inr (.inr (.inl (some (34, 0))))), (1, .inl f)] [] _ _ _
    refine ww_go 4 (pc' := 16) (L' := [(2, .inl 1), (0, .inr (.inr (.inl (some (34, 0))))), (1, .inl f)]) (st' := [.inl 1]) (m' := m0) (o := none) rfl trivial ?_
    refine ww_if (t := 23) rfl rfl (by decide) (fun (h43 : (1 : Int) = 0) => absurd h43 (by decide)) (fun (h43 : ¬ ((1 : Int) = 0)) => ?_)
    show wW (zK sc) zM236 19 [(2, .inl 1), (0, .inr (.inr (.inl (some (34, 0))))), (1, .inl f)] [] _ _ _
    refine ww_go 4 (pc' := 30) (L' := [(3, .inl 0), (2, .inl 1), (0, .inr (.inr (.inl (some (34, 0))))), (1, .inl f)]) (st' := [.inl 1]) (m' := m0) (o := none) rfl trivial ?_
    refine ww_if (t := 46) rfl rfl (by decide) (fun (h44 : (1 : Int) ≠ 0) => ?_) (fun (h44 : ¬ ((1 : Int) ≠ 0)) => absurd (show (1 : Int) ≠ 0 from by decide) h44)
    show wW (zK sc) zM236 46 [(3, .inl 0), (2, .inl 1), (0, .inr (.inr (.inl (some (34, 0))))), (1, .inl f)] [] _ _ _
    refine ww_go 5 (pc' := 54) (L' := [(4, .inl 0), (3, .inl 0), (2, .inl 1), (0, .inr (.inr (.inl (some (34, 0))))), (1, .inl f)]) (st' := []) (m' := wuI m0 34 0 1 0) (o := some ((0 < 1))) rfl (show (0 < 1) from by omega) ?_
    obtain ⟨m45, hm45⟩ : ∃ zq9 : wm, zq9 = wuI m0 34 0 1 0 := ⟨_, rfl⟩
    rw [← hm45]
    have hGm45 : zB c m45 := by rw [hm45]; exact zB_wI rfl (show 0 ≤ (0 : Int) ∧ (0 : Int) ≤ 6 from by omega) hG
    have hFm45 : zfr (fun k i j => (k = 38) ∨ (k = 39) ∨ (k = 40) ∨ (k = 41) ∨ (k = 37) ∨ (k = 34 ∧ j = 0) ∨ (k = 34 ∧ j = 1)) m0 m45 := by rw [hm45]; exact zfr_wI hF (show (34 = 38) ∨ (34 = 39) ∨ (34 = 40) ∨ (34 = 41) ∨ (34 = 37) ∨ (34 = 34 ∧ 1 = 0) ∨ (34 = 34 ∧ 1 = 1) from Or.inr (Or.inr (Or.inr (Or.inr (Or.inr (Or.inr (⟨rfl, rfl⟩)))))))
    have s46 : m45.1 34 0 1 = (0 : Int) := by rw [hm45]; exact wuI_self
    have w47 : m45.1 34 0 0 = m0.1 34 0 0 := by rw [hm45]; exact wuI_nj (by omega)
    have w48 : m45.1 34 0 2 = m0.1 34 0 2 := by rw [hm45]; exact wuI_nj (by omega)
    have w49 : m45.1 37 0 f.toNat = m0.1 37 0 f.toNat := by rw [hm45]; rfl
    refine ww_go 3 (pc' := 57) (L' := [(4, .inl 0), (3, .inl 0), (2, .inl 1), (0, .inr (.inr (.inl (some (34, 0))))), (1, .inl f)]) (st' := [.inl 1, .inl 1, .inr (.inr (.inl (some (34, 0))))]) (m' := m45) (o := none) rfl trivial ?_
    refine ww_call (vs := [.inr (.inr (.inl (some (34, 0)))), .inl 1, .inl 1]) (r := []) (p := 0 < 1) rfl rfl rfl rfl (show 0 < 1 from by omega) (zs196 (c := c) (by omega) 1 1 hGm45 (by omega)) ?_
    rintro _ _ m52 ⟨r50, rfl, rfl, hGm52, hEm52, hr51⟩
    have hFm52 : zfr (fun k i j => (k = 38) ∨ (k = 39) ∨ (k = 40) ∨ (k = 41) ∨ (k = 37) ∨ (k = 34 ∧ j = 0) ∨ (k = 34 ∧ j = 1)) m0 m52 := zfr_tr hFm45 hEm52 (fun k i j z => Or.inr (Or.inr (Or.inr (Or.inr (Or.inr (Or.inl z))))))
    have w53 : m52.1 34 0 1 = m45.1 34 0 1 := (hEm52 34 0 1 (show ¬ ((34 = 34 ∧ 1 = 0)) from by omega)).1
    have w54 : m52.1 34 0 2 = m45.1 34 0 2 := (hEm52 34 0 2 (show ¬ ((34 = 34 ∧ 2 = 0)) from by omega)).1
    have w55 : m52.1 37 0 f.toNat = m45.1 37 0 f.toNat := (hEm52 37 0 f.toNat (show ¬ ((37 = 34 ∧ f.toNat = 0)) from by omega)).1
    show wW (zK sc) zM236 60 [(4, .inl 0), (3, .inl 0), (2, .inl 1), (0, .inr (.inr (.inl (some (34, 0))))), (1, .inl f)] [.inl r50] _ _ _
    refine ww_if (t := 68) rfl rfl (by omega) (fun (h56 : r50 ≠ 0) => ?_) (fun (h56 : ¬ (r50 ≠ 0)) => ?_)
    · show wW (zK sc) zM236 68 [(4, .inl 0), (3, .inl 0), (2, .inl 1), (0, .inr (.inr (.inl (some (34, 0))))), (1, .inl f)] [] _ _ _
      refine ww_go 1 (pc' := 69) (L' := [(4, .inl 0), (3, .inl 0), (2, .inl 1), (0, .inr (.inr (.inl (some (34, 0))))), (1, .inl f)]) (st' := [.inl 0]) (m' := m52) (o := none) rfl trivial ?_
      exact ww_rB rfl rfl (by omega) ⟨_, rfl, rfl, zB_mono hGm52 (by omega), hFm52, by omega⟩
    · show wW (zK sc) zM236 63 [(4, .inl 0), (3, .inl 0), (2, .inl 1), (0, .inr (.inr (.inl (some (34, 0))))), (1, .inl f)] [] _ _ _
      refine ww_go 1 (pc' := 65) (L' := [(4, .inl 0), (3, .inl 0), (2, .inl 1), (0, .inr (.inr (.inl (some (34, 0))))), (1, .inl f)]) (st' := [.inl 0]) (m' := m52) (o := none) rfl trivial ?_
      refine ww_if (t := 70) rfl rfl (by decide) (fun (h57 : (0 : Int) ≠ 0) => absurd h57 (by decide)) (fun (h57 : ¬ ((0 : Int) ≠ 0)) => ?_)
      show wW (zK sc) zM236 68 [(4, .inl 0), (3, .inl 0), (2, .inl 1), (0, .inr (.inr (.inl (some (34, 0))))), (1, .inl f)] [] _ _ _
      refine ww_go 1 (pc' := 69) (L' := [(4, .inl 0), (3, .inl 0), (2, .inl 1), (0, .inr (.inr (.inl (some (34, 0))))), (1, .inl f)]) (st' := [.inl 0]) (m' := m52) (o := none) rfl trivial ?_
      exact ww_rB rfl rfl (by omega) ⟨_, rfl, rfl, zB_mono hGm52 (by omega), hFm52, by omega⟩
set_option maxRecDepth 8000 in
/-- Mo.told -/
theorem zs252 {sc : xSc} {n : Nat × Nat} {m0 : wm} {c : Int} (hc : 0 ≤ c ∧ c ≤ 1000000) (q : Int) (a : Int) (b : Int) (hG : zB c m0) (h0 : 0 ≤ q ∧ q ≤ 5 ∧ 0 ≤ a ∧ a ≤ 727 ∧ 0 ≤ b ∧ b ≤ 255) : wX (zK sc) 252 [.inr (.inr (.inl (some (34, 0)))), .inl q, .inl a, .inl b] n m0 (wr (fun vv n1 m1 => ∃ r : Int, vv = some (.inl r) ∧ n = n1 ∧ zB c m1 ∧ zfr (fun k i j => (k = 45)) m0 m1 ∧ (r = a + 1))) := by
  refine wX_of (N := zM252) rfl (Nat.le_of_ble_eq_true rfl) ?_
  show wW (zK sc) zM252 0 [(0, .inr (.inr (.inl (some (34, 0))))), (1, .inl q), (2, .inl a), (3, .inl b)] [] n m0 _
  have hF : zfr (fun k i j => (k = 45)) m0 m0 := zfr_rf
  refine ww_go 9 (pc' := 13) (L' := [(0, .inr (.inr (.inl (some (34, 0))))), (1, .inl q), (2, .inl a), (3, .inl b)]) (st' := []) (m' := wuI m0 45 0 (((728 * q) + a).toNat) b) (o := some ((0 < 1) ∧ (0 < 1 ∧ 0 ≤ (728 * q) + a ∧ (728 * q) + a < ((4368 : Nat) : Int)))) rfl (show (0 < 1) ∧ (0 < 1 ∧ 0 ≤ (728 * q) + a ∧ (728 * q) + a < ((4368 : Nat) : Int)) from by omega) ?_
  obtain ⟨m1, hm1⟩ : ∃ zq9 : wm, zq9 = wuI m0 45 0 (((728 * q) + a).toNat) b := ⟨_, rfl⟩
  rw [← hm1]
  have hGm1 : zB c m1 := by rw [hm1]; exact zB_wI rfl (show 0 ≤ b ∧ b ≤ 255 from by omega) hG
  have hFm1 : zfr (fun k i j => (k = 45)) m0 m1 := by rw [hm1]; exact zfr_wI hF (show (45 = 45) from rfl)
  have s2 : m1.1 45 0 (((728 * q) + a).toNat) = b := by rw [hm1]; exact wuI_self
  refine ww_go 3 (pc' := 16) (L' := [(0, .inr (.inr (.inl (some (34, 0))))), (1, .inl q), (2, .inl a), (3, .inl b)]) (st' := [.inl (a + 1)]) (m' := m1) (o := none) rfl trivial ?_
  exact ww_rI rfl rfl ⟨_, rfl, rfl, zB_mono hGm1 (by omega), hFm1, by omega⟩
set_option maxRecDepth 8000 in
theorem zs221_l47 {sc : xSc} {n : Nat × Nat} {m0 : wm} {c : Int} (hc : 0 ≤ c ∧ c ≤ 1000000) (f : Int) (q : Int) (x : Int) (hG : zB c m0) (h0 : 0 ≤ f ∧ f ≤ 1 ∧ 0 ≤ q ∧ q ≤ 5 ∧ 0 ≤ x ∧ x ≤ 1000) : ∀ (d : Nat), (∀ (a : Int) (g : Int) (m : wm), (12 - g).toNat * 1000 + 999 = d → zB c m → zfr (fun k i j => (k = 45) ∨ (k = 44)) m0 m → (0 ≤ f ∧ f ≤ 1 ∧ 0 ≤ q ∧ q ≤ 5 ∧ 6 * f ≤ g ∧ g ≤ 6 * f + m0.1 37 0 f.toNat ∧ 3 ≤ a ∧ a ≤ 3 + 16 * (g - 6 * f) ∧ m.1 37 0 f.toNat = m0.1 37 0 f.toNat) →  wW (zK sc) zM221 47 [(0, .inr (.inr (.inl (some (34, 0))))), (1, .inl f), (2, .inl q), (4, .inl a), (5, .inl g)] [] n m (wr (fun vv n1 m1 => vv = none ∧ n = n1 ∧ zB c m1 ∧ zfr (fun k i j => (k = 45) ∨ (k = 44)) m0 m1 ∧ True))) ∧ (∀ (a : Int) (g : Int) (k : Int) (m : wm), (12 - g).toNat * 1000 + 800 + (6 - k).toNat = d → zB c m → zfr (fun k i j => (k = 45) ∨ (k = 44)) m0 m → (0 ≤ f ∧ f ≤ 1 ∧ 0 ≤ q ∧ q ≤ 5 ∧ 6 * f ≤ g ∧ g < 6 * f + m0.1 37 0 f.toNat ∧ 0 ≤ k ∧ k ≤ 6 ∧ 3 ≤ a ∧ a ≤ 4 + 16 * (g - 6 * f) + k ∧ m.1 37 0 f.toNat = m0.1 37 0 f.toNat) →  wW (zK sc) zM221 82 [(0, .inr (.inr (.inl (some (34, 0))))), (1, .inl f), (2, .inl q), (4, .inl a), (5, .inl g), (6, .inl k)] [] n m (wr (fun vv n1 m1 => vv = none ∧ n = n1 ∧ zB c m1 ∧ zfr (fun k i j => (k = 45) ∨ (k = 44)) m0 m1 ∧ True))) ∧ (∀ (a : Int) (g : Int) (h : Int64) (k : Int) (m : wm), (12 - g).toNat * 1000 + 500 + (96 - k).toNat = d → zB c m → zfr (fun k i j => (k = 45) ∨ (k = 44)) m0 m → (0 ≤ f ∧ f ≤ 1 ∧ 0 ≤ q ∧ q ≤ 5 ∧ 6 * f ≤ g ∧ g < 6 * f + m0.1 37 0 f.toNat ∧ 0 ≤ k ∧ k ≤ 96 ∧ 3 ≤ a ∧ a ≤ 11 + 16 * (g - 6 * f) ∧ m.1 37 0 f.toNat = m0.1 37 0 f.toNat) →  wW (zK sc) zM221 146 [(0, .inr (.inr (.inl (some (34, 0))))), (1, .inl f), (2, .inl q), (4, .inl a), (5, .inl g), (6, .inr (.inl h)), (8, .inl k)] [] n m (wr (fun vv n1 m1 => vv = none ∧ n = n1 ∧ zB c m1 ∧ zfr (fun k i j => (k = 45) ∨ (k = 44)) m0 m1 ∧ True))) ∧ (∀ (a : Int) (g : Int) (h : Int64) (k : Int) (m : wm), (12 - g).toNat * 1000 + (k + 8).toNat = d → zB c m → zfr (fun k i j => (k = 45) ∨ (k = 44)) m0 m → (0 ≤ f ∧ f ≤ 1 ∧ 0 ≤ q ∧ q ≤ 5 ∧ 6 * f ≤ g ∧ g < 6 * f + m0.1 37 0 f.toNat ∧ -8 ≤ k ∧ k ≤ 56 ∧ k % 8 = 0 ∧ 3 ≤ a ∧ a ≤ 11 + 16 * (g - 6 * f) + (56 - k) / 8 ∧ m.1 37 0 f.toNat = m0.1 37 0 f.toNat) →  wW (zK sc) zM221 188 [(0, .inr (.inr (.inl (some (34, 0))))), (1, .inl f), (2, .inl q), (4, .inl a), (5, .inl g), (6, .inr (.inl h)), (8, .inl k)] [] n m (wr (fun vv n1 m1 => vv = none ∧ n = n1 ∧ zB c m1 ∧ zfr (fun k i j => (k = 45) ∨ (k = 44)) m0 m1 ∧ True))) := by
  intro d
  induction d using Nat.strongRecOn with
  | ind d ih =>
    refine ⟨?_, ?_, ?_, ?_⟩
    · intro a g m hd hGm hFm hi
      have bf : 0 ≤ m0.1 37 0 f.toNat ∧ m0.1 37 0 f.toNat ≤ 6 := hG.1 37 _ rfl _ _
      have b1 : 0 ≤ m.1 37 0 f.toNat ∧ m.1 37 0 f.toNat ≤ 6 := hGm.1 37 _ rfl _ _
      refine ww_go 9 (pc' := 60) (L' := [(0, .inr (.inr (.inl (some (34, 0))))), (1, .inl f), (2, .inl q), (4, .inl a), (5, .inl g)]) (st' := [.inl ((6 * f) + (m.1 37 0 f.toNat)), .inl g]) (m' := m) (o := some ((0 < 1) ∧ (0 < 1 ∧ 0 ≤ f ∧ f < ((2 : Nat) : Int)))) rfl (show (0 < 1) ∧ (0 < 1 ∧ 0 ≤ f ∧ f < ((2 : Nat) : Int)) from by omega) ?_
      refine ww_ic (t := 224) rfl rfl (by omega) (fun (h2 : (6 * f) + (m.1 37 0 f.toNat) ≤ g) => ?_) (fun (h2 : ¬ ((6 * f) + (m.1 37 0 f.toNat) ≤ g)) => ?_)
      · show wW (zK sc) zM221 224 [(0, .inr (.inr (.inl (some (34, 0))))), (1, .inl f), (2, .inl q), (4, .inl a), (5, .inl g)] [] _ _ _
        refine ww_go 7 (pc' := 235) (L' := [(0, .inr (.inr (.inl (some (34, 0))))), (1, .inl f), (2, .inl q), (4, .inl a), (5, .inl g)]) (st' := []) (m' := wuI m 44 0 ((7 * q).toNat) a) (o := some ((0 < 1) ∧ (0 < 1 ∧ 0 ≤ 7 * q ∧ 7 * q < ((42 : Nat) : Int)))) rfl (show (0 < 1) ∧ (0 < 1 ∧ 0 ≤ 7 * q ∧ 7 * q < ((42 : Nat) : Int)) from by omega) ?_
        obtain ⟨m3, hm3⟩ : ∃ zq9 : wm, zq9 = wuI m 44 0 ((7 * q).toNat) a := ⟨_, rfl⟩
        rw [← hm3]
        have hGm3 : zB c m3 := by rw [hm3]; exact zB_wI rfl (show 0 ≤ a ∧ a ≤ 104 from by omega) hGm
        have hFm3 : zfr (fun k i j => (k = 45) ∨ (k = 44)) m0 m3 := by rw [hm3]; exact zfr_wI hFm (show (44 = 45) ∨ (44 = 44) from Or.inr (rfl))
        have s4 : m3.1 44 0 ((7 * q).toNat) = a := by rw [hm3]; exact wuI_self
        have w5 : m3.1 37 0 f.toNat = m.1 37 0 f.toNat := by rw [hm3]; rfl
        exact ww_rV rfl rfl ⟨rfl, rfl, zB_mono hGm3 (by omega), hFm3, by trivial⟩
      · show wW (zK sc) zM221 63 [(0, .inr (.inr (.inl (some (34, 0))))), (1, .inl f), (2, .inl q), (4, .inl a), (5, .inl g)] [] _ _ _
        have b6 : 0 ≤ m.1 38 0 g.toNat ∧ m.1 38 0 g.toNat ≤ 6 := hGm.1 38 _ rfl _ _
        refine ww_go 7 (pc' := 74) (L' := [(0, .inr (.inr (.inl (some (34, 0))))), (1, .inl f), (2, .inl q), (4, .inl a), (5, .inl g)]) (st' := [.inl (m.1 38 0 g.toNat), .inl a, .inl q, .inr (.inr (.inl (some (34, 0))))]) (m' := m) (o := some ((0 < 1) ∧ (0 < 1 ∧ 0 ≤ g ∧ g < ((12 : Nat) : Int)))) rfl (show (0 < 1) ∧ (0 < 1 ∧ 0 ≤ g ∧ g < ((12 : Nat) : Int)) from by omega) ?_
        refine ww_call (vs := [.inr (.inr (.inl (some (34, 0)))), .inl q, .inl a, .inl (m.1 38 0 g.toNat)]) (r := []) (p := 0 < 1) rfl rfl rfl rfl (show 0 < 1 from by omega) (zs252 (c := c) (by omega) q a (m.1 38 0 g.toNat) hGm (by omega)) ?_
        rintro _ _ m9 ⟨r7, rfl, rfl, hGm9, hEm9, hr8⟩
        have hFm9 : zfr (fun k i j => (k = 45) ∨ (k = 44)) m0 m9 := zfr_tr hFm hEm9 (fun k i j z => Or.inl z)
        have w10 : m9.1 37 0 f.toNat = m.1 37 0 f.toNat := (hEm9 37 0 f.toNat (show ¬ ((37 = 45)) from by omega)).1
        show wW (zK sc) zM221 77 [(0, .inr (.inr (.inl (some (34, 0))))), (1, .inl f), (2, .inl q), (4, .inl a), (5, .inl g)] [.inl r7] _ _ _
        refine ww_go 3 (pc' := 82) (L' := [(6, .inl 0), (4, .inl r7), (0, .inr (.inr (.inl (some (34, 0))))), (1, .inl f), (2, .inl q), (5, .inl g)]) (st' := []) (m' := m9) (o := none) rfl trivial ?_
        refine ww_sub (L := [(0, .inr (.inr (.inl (some (34, 0))))), (1, .inl f), (2, .inl q), (4, .inl r7), (5, .inl g), (6, .inl 0)]) ⟨rfl, rfl, rfl, rfl, rfl, rfl, trivial⟩ rfl rfl ?_
        exact (ih _ (by omega)).2.1 r7 g 0 m9 rfl (zB_mono hGm9 (by omega)) hFm9 (by omega)
    · intro a g k m hd hGm hFm hi
      have bf : 0 ≤ m0.1 37 0 f.toNat ∧ m0.1 37 0 f.toNat ≤ 6 := hG.1 37 _ rfl _ _
      have b1 : 0 ≤ m.1 38 0 g.toNat ∧ m.1 38 0 g.toNat ≤ 6 := hGm.1 38 _ rfl _ _
      refine ww_go 5 (pc' := 91) (L' := [(0, .inr (.inr (.inl (some (34, 0))))), (1, .inl f), (2, .inl q), (4, .inl a), (5, .inl g), (6, .inl k)]) (st' := [.inl (m.1 38 0 g.toNat), .inl k]) (m' := m) (o := some ((0 < 1) ∧ (0 < 1 ∧ 0 ≤ g ∧ g < ((12 : Nat) : Int)))) rfl (show (0 < 1) ∧ (0 < 1 ∧ 0 ≤ g ∧ g < ((12 : Nat) : Int)) from by omega) ?_
      refine ww_ic (t := 122) rfl rfl (by omega) (fun (h2 : m.1 38 0 g.toNat ≤ k) => ?_) (fun (h2 : ¬ (m.1 38 0 g.toNat ≤ k)) => ?_)
      · show wW (zK sc) zM221 122 [(0, .inr (.inr (.inl (some (34, 0))))), (1, .inl f), (2, .inl q), (4, .inl a), (5, .inl g), (6, .inl k)] [] _ _ _
        have b3 : 0 ≤ m.1 40 0 g.toNat ∧ m.1 40 0 g.toNat ≤ 96 := hGm.1 40 _ rfl _ _
        refine ww_go 7 (pc' := 133) (L' := [(0, .inr (.inr (.inl (some (34, 0))))), (1, .inl f), (2, .inl q), (4, .inl a), (5, .inl g), (6, .inl k)]) (st' := [.inl (m.1 40 0 g.toNat), .inl a, .inl q, .inr (.inr (.inl (some (34, 0))))]) (m' := m) (o := some ((0 < 1) ∧ (0 < 1 ∧ 0 ≤ g ∧ g < ((12 : Nat) : Int)))) rfl (show (0 < 1) ∧ (0 < 1 ∧ 0 ≤ g ∧ g < ((12 : Nat) : Int)) from by omega) ?_
        refine ww_call (vs := [.inr (.inr (.inl (some (34, 0)))), .inl q, .inl a, .inl (m.1 40 0 g.toNat)]) (r := []) (p := 0 < 1) rfl rfl rfl rfl (show 0 < 1 from by omega) (zs252 (c := c) (by omega) q a (m.1 40 0 g.toNat) hGm (by omega)) ?_
        rintro _ _ m6 ⟨r4, rfl, rfl, hGm6, hEm6, hr5⟩
        have hFm6 : zfr (fun k i j => (k = 45) ∨ (k = 44)) m0 m6 := zfr_tr hFm hEm6 (fun k i j z => Or.inl z)
        have w7 : m6.1 37 0 f.toNat = m.1 37 0 f.toNat := (hEm6 37 0 f.toNat (show ¬ ((37 = 45)) from by omega)).1
        show wW (zK sc) zM221 136 [(0, .inr (.inr (.inl (some (34, 0))))), (1, .inl f), (2, .inl q), (4, .inl a), (5, .inl g), (6, .inl k)] [.inl r4] _ _ _
        refine ww_go 1 (pc' := 138) (L' := [(4, .inl r4), (0, .inr (.inr (.inl (some (34, 0))))), (1, .inl f), (2, .inl q), (5, .inl g), (6, .inl k)]) (st' := []) (m' := m6) (o := none) rfl trivial ?_
        refine ww_call (vs := []) (r := []) (p := True) rfl rfl rfl rfl trivial (zs181 ) ?_
        rintro _ _ _ ⟨r8, rfl, rfl, rfl, hr9⟩
        show wW (zK sc) zM221 141 [(4, .inl r4), (0, .inr (.inr (.inl (some (34, 0))))), (1, .inl f), (2, .inl q), (5, .inl g), (6, .inl k)] [.inr (.inl r8)] _ _ _
        refine ww_go 3 (pc' := 146) (L' := [(8, .inl 0), (6, .inr (.inl r8)), (4, .inl r4), (0, .inr (.inr (.inl (some (34, 0))))), (1, .inl f), (2, .inl q), (5, .inl g)]) (st' := []) (m' := m6) (o := none) rfl trivial ?_
        refine ww_sub (L := [(0, .inr (.inr (.inl (some (34, 0))))), (1, .inl f), (2, .inl q), (4, .inl r4), (5, .inl g), (6, .inr (.inl r8)), (8, .inl 0)]) ⟨rfl, rfl, rfl, rfl, rfl, rfl, rfl, trivial⟩ rfl rfl ?_
        exact (ih _ (by omega)).2.2.1 r4 g r8 0 m6 rfl (zB_mono hGm6 (by omega)) hFm6 (by omega)
      · show wW (zK sc) zM221 94 [(0, .inr (.inr (.inl (some (34, 0))))), (1, .inl f), (2, .inl q), (4, .inl a), (5, .inl g), (6, .inl k)] [] _ _ _
        have b10 : 0 ≤ m.1 39 0 (((6 * g) + k).toNat) ∧ m.1 39 0 (((6 * g) + k).toNat) ≤ 255 := hGm.1 39 _ rfl _ _
        refine ww_go 11 (pc' := 111) (L' := [(0, .inr (.inr (.inl (some (34, 0))))), (1, .inl f), (2, .inl q), (4, .inl a), (5, .inl g), (6, .inl k)]) (st' := [.inl (m.1 39 0 (((6 * g) + k).toNat)), .inl a, .inl q, .inr (.inr (.inl (some (34, 0))))]) (m' := m) (o := some ((0 < 1) ∧ (0 < 1 ∧ 0 ≤ (6 * g) + k ∧ (6 * g) + k < ((72 : Nat) : Int)))) rfl (show (0 < 1) ∧ (0 < 1 ∧ 0 ≤ (6 * g) + k ∧ (6 * g) + k < ((72 : Nat) : Int)) from by omega) ?_
        refine ww_call (vs := [.inr (.inr (.inl (some (34, 0)))), .inl q, .inl a, .inl (m.1 39 0 (((6 * g) + k).toNat))]) (r := []) (p := 0 < 1) rfl rfl rfl rfl (show 0 < 1 from by omega) (zs252 (c := c) (by omega) q a (m.1 39 0 (((6 * g) + k).toNat)) hGm (by omega)) ?_
        rintro _ _ m13 ⟨r11, rfl, rfl, hGm13, hEm13, hr12⟩
        have hFm13 : zfr (fun k i j => (k = 45) ∨ (k = 44)) m0 m13 := zfr_tr hFm hEm13 (fun k i j z => Or.inl z)
        have w14 : m13.1 37 0 f.toNat = m.1 37 0 f.toNat := (hEm13 37 0 f.toNat (show ¬ ((37 = 45)) from by omega)).1
        show wW (zK sc) zM221 114 [(0, .inr (.inr (.inl (some (34, 0))))), (1, .inl f), (2, .inl q), (4, .inl a), (5, .inl g), (6, .inl k)] [.inl r11] _ _ _
        refine ww_go 3 (pc' := 82) (L' := [(6, .inl (k + 1)), (4, .inl r11), (0, .inr (.inr (.inl (some (34, 0))))), (1, .inl f), (2, .inl q), (5, .inl g)]) (st' := []) (m' := m13) (o := none) rfl trivial ?_
        refine ww_sub (L := [(0, .inr (.inr (.inl (some (34, 0))))), (1, .inl f), (2, .inl q), (4, .inl r11), (5, .inl g), (6, .inl (k + 1))]) ⟨rfl, rfl, rfl, rfl, rfl, rfl, trivial⟩ rfl rfl ?_
        exact (ih _ (by omega)).2.1 r11 g (k + 1) m13 rfl (zB_mono hGm13 (by omega)) hFm13 (by omega)
    · intro a g h k m hd hGm hFm hi
      have bf : 0 ≤ m0.1 37 0 f.toNat ∧ m0.1 37 0 f.toNat ≤ 6 := hG.1 37 _ rfl _ _
      have b1 : 0 ≤ m.1 40 0 g.toNat ∧ m.1 40 0 g.toNat ≤ 96 := hGm.1 40 _ rfl _ _
      refine ww_go 5 (pc' := 155) (L' := [(0, .inr (.inr (.inl (some (34, 0))))), (1, .inl f), (2, .inl q), (4, .inl a), (5, .inl g), (6, .inr (.inl h)), (8, .inl k)]) (st' := [.inl (m.1 40 0 g.toNat), .inl k]) (m' := m) (o := some ((0 < 1) ∧ (0 < 1 ∧ 0 ≤ g ∧ g < ((12 : Nat) : Int)))) rfl (show (0 < 1) ∧ (0 < 1 ∧ 0 ≤ g ∧ g < ((12 : Nat) : Int)) from by omega) ?_
      refine ww_ic (t := 184) rfl rfl (by omega) (fun (h2 : m.1 40 0 g.toNat ≤ k) => ?_) (fun (h2 : ¬ (m.1 40 0 g.toNat ≤ k)) => ?_)
      · show wW (zK sc) zM221 184 [(0, .inr (.inr (.inl (some (34, 0))))), (1, .inl f), (2, .inl q), (4, .inl a), (5, .inl g), (6, .inr (.inl h)), (8, .inl k)] [] _ _ _
        refine ww_go 2 (pc' := 188) (L' := [(8, .inl 56), (0, .inr (.inr (.inl (some (34, 0))))), (1, .inl f), (2, .inl q), (4, .inl a), (5, .inl g), (6, .inr (.inl h))]) (st' := []) (m' := m) (o := none) rfl trivial ?_
        refine ww_sub (L := [(0, .inr (.inr (.inl (some (34, 0))))), (1, .inl f), (2, .inl q), (4, .inl a), (5, .inl g), (6, .inr (.inl h)), (8, .inl 56)]) ⟨rfl, rfl, rfl, rfl, rfl, rfl, rfl, trivial⟩ rfl rfl ?_
        exact (ih _ (by omega)).2.2.2 a g h 56 m rfl (zB_mono hGm (by omega)) hFm (by omega)
      · show wW (zK sc) zM221 158 [(0, .inr (.inr (.inl (some (34, 0))))), (1, .inl f), (2, .inl q), (4, .inl a), (5, .inl g), (6, .inr (.inl h)), (8, .inl k)] [] _ _ _
        have b3 : 0 ≤ m.1 41 0 (((96 * g) + k).toNat) ∧ m.1 41 0 (((96 * g) + k).toNat) ≤ 255 := hGm.1 41 _ rfl _ _
        refine ww_go 9 (pc' := 173) (L' := [(0, .inr (.inr (.inl (some (34, 0))))), (1, .inl f), (2, .inl q), (4, .inl a), (5, .inl g), (6, .inr (.inl h)), (8, .inl k)]) (st' := [.inl (m.1 41 0 (((96 * g) + k).toNat)), .inr (.inl h)]) (m' := m) (o := some ((0 < 1) ∧ (0 < 1 ∧ 0 ≤ (96 * g) + k ∧ (96 * g) + k < ((1152 : Nat) : Int)))) rfl (show (0 < 1) ∧ (0 < 1 ∧ 0 ≤ (96 * g) + k ∧ (96 * g) + k < ((1152 : Nat) : Int)) from by omega) ?_
        refine ww_call (vs := [.inr (.inl h), .inl (m.1 41 0 (((96 * g) + k).toNat))]) (r := []) (p := True) rfl rfl rfl rfl trivial (zs223 h (m.1 41 0 (((96 * g) + k).toNat))) ?_
        rintro _ _ _ ⟨r4, rfl, rfl, rfl, hr5⟩
        show wW (zK sc) zM221 176 [(0, .inr (.inr (.inl (some (34, 0))))), (1, .inl f), (2, .inl q), (4, .inl a), (5, .inl g), (6, .inr (.inl h)), (8, .inl k)] [.inr (.inl r4)] _ _ _
        refine ww_go 3 (pc' := 146) (L' := [(8, .inl (k + 1)), (6, .inr (.inl r4)), (0, .inr (.inr (.inl (some (34, 0))))), (1, .inl f), (2, .inl q), (4, .inl a), (5, .inl g)]) (st' := []) (m' := m) (o := none) rfl trivial ?_
        refine ww_sub (L := [(0, .inr (.inr (.inl (some (34, 0))))), (1, .inl f), (2, .inl q), (4, .inl a), (5, .inl g), (6, .inr (.inl r4)), (8, .inl (k + 1))]) ⟨rfl, rfl, rfl, rfl, rfl, rfl, rfl, trivial⟩ rfl rfl ?_
        exact (ih _ (by omega)).2.2.1 a g r4 (k + 1) m rfl (zB_mono hGm (by omega)) hFm (by omega)
    · intro a g h k m hd hGm hFm hi
      have bf : 0 ≤ m0.1 37 0 f.toNat ∧ m0.1 37 0 f.toNat ≤ 6 := hG.1 37 _ rfl _ _
      refine ww_go 1 (pc' := 190) (L' := [(0, .inr (.inr (.inl (some (34, 0))))), (1, .inl f), (2, .inl q), (4, .inl a), (5, .inl g), (6, .inr (.inl h)), (8, .inl k)]) (st' := [.inl k]) (m' := m) (o := none) rfl trivial ?_
      refine ww_if (t := 218) rfl rfl (by omega) (fun (h1 : k < 0) => ?_) (fun (h1 : ¬ (k < 0)) => ?_)
      · show wW (zK sc) zM221 218 [(0, .inr (.inr (.inl (some (34, 0))))), (1, .inl f), (2, .inl q), (4, .inl a), (5, .inl g), (6, .inr (.inl h)), (8, .inl k)] [] _ _ _
        refine ww_go 2 (pc' := 47) (L' := [(5, .inl (g + 1)), (0, .inr (.inr (.inl (some (34, 0))))), (1, .inl f), (2, .inl q), (4, .inl a), (6, .inr (.inl h)), (8, .inl k)]) (st' := []) (m' := m) (o := none) rfl trivial ?_
        refine ww_sub (L := [(0, .inr (.inr (.inl (some (34, 0))))), (1, .inl f), (2, .inl q), (4, .inl a), (5, .inl (g + 1))]) ⟨rfl, rfl, rfl, rfl, rfl, trivial⟩ rfl rfl ?_
        exact (ih _ (by omega)).1 a (g + 1) m rfl (zB_mono hGm (by omega)) hFm (by omega)
      · show wW (zK sc) zM221 193 [(0, .inr (.inr (.inl (some (34, 0))))), (1, .inl f), (2, .inl q), (4, .inl a), (5, .inl g), (6, .inr (.inl h)), (8, .inl k)] [] _ _ _
        have t2 := wl2i_rg ((h >>> (wi2l k &&& 63)) &&& (Int64.ofInt 255))
        have t3 := wl2i_255 (h >>> (wi2l k &&& 63))
        refine ww_go 9 (pc' := 207) (L' := [(0, .inr (.inr (.inl (some (34, 0))))), (1, .inl f), (2, .inl q), (4, .inl a), (5, .inl g), (6, .inr (.inl h)), (8, .inl k)]) (st' := [.inl (wl2i ((h >>> (wi2l k &&& 63)) &&& (Int64.ofInt 255))), .inl a, .inl q, .inr (.inr (.inl (some (34, 0))))]) (m' := m) (o := none) rfl trivial ?_
        refine ww_call (vs := [.inr (.inr (.inl (some (34, 0)))), .inl q, .inl a, .inl (wl2i ((h >>> (wi2l k &&& 63)) &&& (Int64.ofInt 255)))]) (r := []) (p := 0 < 1) rfl rfl rfl rfl (show 0 < 1 from by omega) (zs252 (c := c) (by omega) q a (wl2i ((h >>> (wi2l k &&& 63)) &&& (Int64.ofInt 255))) hGm (by omega)) ?_
        rintro _ _ m6 ⟨r4, rfl, rfl, hGm6, hEm6, hr5⟩
        have hFm6 : zfr (fun k i j => (k = 45) ∨ (k = 44)) m0 m6 := zfr_tr hFm hEm6 (fun k i j z => Or.inl z)
        have w7 : m6.1 37 0 f.toNat = m.1 37 0 f.toNat := (hEm6 37 0 f.toNat (show ¬ ((37 = 45)) from by omega)).1
        show wW (zK sc) zM221 210 [(0, .inr (.inr (.inl (some (34, 0))))), (1, .inl f), (2, .inl q), (4, .inl a), (5, .inl g), (6, .inr (.inl h)), (8, .inl k)] [.inl r4] _ _ _
        refine ww_go 3 (pc' := 188) (L' := [(8, .inl (k + (-8))), (4, .inl r4), (0, .inr (.inr (.inl (some (34, 0))))), (1, .inl f), (2, .inl q), (5, .inl g), (6, .inr (.inl h))]) (st' := []) (m' := m6) (o := none) rfl trivial ?_
        refine ww_sub (L := [(0, .inr (.inr (.inl (some (34, 0))))), (1, .inl f), (2, .inl q), (4, .inl r4), (5, .inl g), (6, .inr (.inl h)), (8, .inl (k + (-8)))]) ⟨rfl, rfl, rfl, rfl, rfl, rfl, rfl, trivial⟩ rfl rfl ?_
        exact (ih _ (by omega)).2.2.2 r4 g h (k + (-8)) m6 rfl (zB_mono hGm6 (by omega)) hFm6 (by omega)
set_option maxRecDepth 8000 in
/-- Mo.manifest -/
theorem zs221 {sc : xSc} {n : Nat × Nat} {m0 : wm} {c : Int} (hc : 0 ≤ c ∧ c ≤ 1000000) (f : Int) (q : Int) (x : Int) (hG : zB c m0) (h0 : 0 ≤ f ∧ f ≤ 1 ∧ 0 ≤ q ∧ q ≤ 5 ∧ 0 ≤ x ∧ x ≤ 1000) : wX (zK sc) 221 [.inr (.inr (.inl (some (34, 0)))), .inl f, .inl q, .inl x] n m0 (wr (fun vv n1 m1 => vv = none ∧ n = n1 ∧ zB c m1 ∧ zfr (fun k i j => (k = 45) ∨ (k = 44)) m0 m1 ∧ True)) := by
  refine wX_of (N := zM221) rfl (Nat.le_of_ble_eq_true rfl) ?_
  show wW (zK sc) zM221 0 [(0, .inr (.inr (.inl (some (34, 0))))), (1, .inl f), (2, .inl q), (3, .inl x)] [] n m0 _
  have hF : zfr (fun k i j => (k = 45) ∨ (k = 44)) m0 m0 := zfr_rf
  have bf : 0 ≤ m0.1 37 0 f.toNat ∧ m0.1 37 0 f.toNat ≤ 6 := hG.1 37 _ rfl _ _
  have t1 := wshr_rg x 8
  have t2 := wshr_k8 (X := x)
  refine ww_go 6 (pc' := 7) (L' := [(0, .inr (.inr (.inl (some (34, 0))))), (1, .inl f), (2, .inl q), (3, .inl x)]) (st' := [.inl (wshr x 8), .inl 0, .inl q, .inr (.inr (.inl (some (34, 0))))]) (m' := m0) (o := none) rfl trivial ?_
  refine ww_call (vs := [.inr (.inr (.inl (some (34, 0)))), .inl q, .inl 0, .inl (wshr x 8)]) (r := []) (p := 0 < 1) rfl rfl rfl rfl (show 0 < 1 from by omega) (zs252 (c := c) (by omega) q 0 (wshr x 8) hG (by omega)) ?_
  rintro _ _ m5 ⟨r3, rfl, rfl, hGm5, hEm5, hr4⟩
  have hFm5 : zfr (fun k i j => (k = 45) ∨ (k = 44)) m0 m5 := zfr_tr hF hEm5 (fun k i j z => Or.inl z)
  have w6 : m5.1 37 0 f.toNat = m0.1 37 0 f.toNat := (hEm5 37 0 f.toNat (show ¬ ((37 = 45)) from by omega)).1
  show wW (zK sc) zM221 10 [(0, .inr (.inr (.inl (some (34, 0))))), (1, .inl f), (2, .inl q), (3, .inl x)] [.inl r3] _ _ _
  have t7 := wand_rg x 255
  have t8 := wand_m255 x
  refine ww_go 7 (pc' := 21) (L' := [(4, .inl r3), (0, .inr (.inr (.inl (some (34, 0))))), (1, .inl f), (2, .inl q), (3, .inl x)]) (st' := [.inl (wand x 255), .inl r3, .inl q, .inr (.inr (.inl (some (34, 0))))]) (m' := m5) (o := none) rfl trivial ?_
  refine ww_call (vs := [.inr (.inr (.inl (some (34, 0)))), .inl q, .inl r3, .inl (wand x 255)]) (r := []) (p := 0 < 1) rfl rfl rfl rfl (show 0 < 1 from by omega) (zs252 (c := c) (by omega) q r3 (wand x 255) hGm5 (by omega)) ?_
  rintro _ _ m11 ⟨r9, rfl, rfl, hGm11, hEm11, hr10⟩
  have hFm11 : zfr (fun k i j => (k = 45) ∨ (k = 44)) m0 m11 := zfr_tr hFm5 hEm11 (fun k i j z => Or.inl z)
  have w12 : m11.1 37 0 f.toNat = m5.1 37 0 f.toNat := (hEm11 37 0 f.toNat (show ¬ ((37 = 45)) from by omega)).1
  show wW (zK sc) zM221 24 [(4, .inl r3), (0, .inr (.inr (.inl (some (34, 0))))), (1, .inl f), (2, .inl q), (3, .inl x)] [.inl r9] _ _ _
  have b13 : 0 ≤ m11.1 37 0 f.toNat ∧ m11.1 37 0 f.toNat ≤ 6 := hGm11.1 37 _ rfl _ _
  refine ww_go 8 (pc' := 36) (L' := [(4, .inl r9), (0, .inr (.inr (.inl (some (34, 0))))), (1, .inl f), (2, .inl q), (3, .inl x)]) (st' := [.inl (m11.1 37 0 f.toNat), .inl r9, .inl q, .inr (.inr (.inl (some (34, 0))))]) (m' := m11) (o := some ((0 < 1) ∧ (0 < 1 ∧ 0 ≤ f ∧ f < ((2 : Nat) : Int)))) rfl (show (0 < 1) ∧ (0 < 1 ∧ 0 ≤ f ∧ f < ((2 : Nat) : Int)) from by omega) ?_
  refine ww_call (vs := [.inr (.inr (.inl (some (34, 0)))), .inl q, .inl r9, .inl (m11.1 37 0 f.toNat)]) (r := []) (p := 0 < 1) rfl rfl rfl rfl (show 0 < 1 from by omega) (zs252 (c := c) (by omega) q r9 (m11.1 37 0 f.toNat) hGm11 (by omega)) ?_
  rintro _ _ m16 ⟨r14, rfl, rfl, hGm16, hEm16, hr15⟩
  have hFm16 : zfr (fun k i j => (k = 45) ∨ (k = 44)) m0 m16 := zfr_tr hFm11 hEm16 (fun k i j z => Or.inl z)
  have w17 : m16.1 37 0 f.toNat = m11.1 37 0 f.toNat := (hEm16 37 0 f.toNat (show ¬ ((37 = 45)) from by omega)).1
  show wW (zK sc) zM221 39 [(4, .inl r9), (0, .inr (.inr (.inl (some (34, 0))))), (1, .inl f), (2, .inl q), (3, .inl x)] [.inl r14] _ _ _
  refine ww_go 5 (pc' := 47) (L' := [(5, .inl (6 * f)), (4, .inl r14), (0, .inr (.inr (.inl (some (34, 0))))), (1, .inl f), (2, .inl q), (3, .inl x)]) (st' := []) (m' := m16) (o := none) rfl trivial ?_
  refine ww_sub (L := [(0, .inr (.inr (.inl (some (34, 0))))), (1, .inl f), (2, .inl q), (4, .inl r14), (5, .inl (6 * f))]) ⟨rfl, rfl, rfl, rfl, rfl, trivial⟩ rfl rfl ?_
  exact (zs221_l47 hc f q x hG h0 _).1 r14 (6 * f) m16 rfl (zB_mono hGm16 (by omega)) hFm16 (by omega)
