set_option maxRecDepth 8000 in
/-- Sender.folder -/
theorem zs130 {sc : xSc} {n : Nat × Nat} {m : wm} {c : Int} (hc : 0 ≤ c ∧ c ≤ 1000000) (x : Int) (hG : zB c m) (h0 : 0 ≤ x ∧ x ≤ 1) : wX (zK sc) 130 [.inr (.inr (.inl (some (3, 0)))), .inl x] n m (wr (fun vv n1 m1 => ∃ r : Nat, vv = some (.inr (.inr (.inl (some (6, r))))) ∧ n = n1 ∧ m = m1 ∧ (r = x.toNat))) := by
  refine wX_of (N := zM130) rfl (Nat.le_of_ble_eq_true rfl) ?_
  show wW (zK sc) zM130 0 [(0, .inr (.inr (.inl (some (3, 0))))), (1, .inl x)] [] n m _
  refine ww_go 4 (pc' := 6) (L' := [(0, .inr (.inr (.inl (some (3, 0))))), (1, .inl x)]) (st' := [.inr (.inr (.inl (some (6, x.toNat))))]) (m' := m) (o := some ((0 < 1) ∧ (0 < 1 ∧ 0 ≤ x ∧ x < ((2 : Nat) : Int)))) rfl (show (0 < 1) ∧ (0 < 1 ∧ 0 ≤ x ∧ x < ((2 : Nat) : Int)) from by omega) ?_
  exact ww_rA rfl rfl ⟨_, rfl, rfl, rfl, by rfl⟩
set_option maxRecDepth 8000 in
/-- Sender.life -/
theorem zs131 {sc : xSc} {n : Nat × Nat} {m : wm} {c : Int} (hc : 0 ≤ c ∧ c ≤ 1000000)  (hG : zB c m) : wX (zK sc) 131 [.inr (.inr (.inl (some (3, 0))))] n m (wr (fun vv n1 m1 => ∃ r : Int, vv = some (.inl r) ∧ n = n1 ∧ m = m1 ∧ (r = m.1 3 0 2 ∧ 1 ≤ r ∧ r ≤ 255))) := by
  refine wX_of (N := zM131) rfl (Nat.le_of_ble_eq_true rfl) ?_
  show wW (zK sc) zM131 0 [(0, .inr (.inr (.inl (some (3, 0)))))] [] n m _
  have b1 : 1 ≤ m.1 3 0 2 ∧ m.1 3 0 2 ≤ 255 := hG.1 3 _ rfl _ _
  refine ww_go 2 (pc' := 4) (L' := [(0, .inr (.inr (.inl (some (3, 0)))))]) (st' := [.inl (m.1 3 0 2)]) (m' := m) (o := some ((0 < 1))) rfl (show (0 < 1) from by omega) ?_
  exact ww_rI rfl rfl ⟨_, rfl, rfl, rfl, by exact ⟨rfl, by omega, by omega⟩⟩
set_option maxRecDepth 8000 in
/-- Sender.beginRounds -/
theorem zs127 {sc : xSc} {n : Nat × Nat} {m0 : wm} {c : Int} (hc : 0 ≤ c ∧ c ≤ 1000000)  (hG : zB c m0) : wX (zK sc) 127 [.inr (.inr (.inl (some (3, 0))))] n m0 (wr (fun vv n1 m1 => vv = none ∧ n = n1 ∧ zB c m1 ∧ zfr (fun k i j => (k = 3 ∧ j = 3) ∨ (k = 5)) m0 m1 ∧ (m1.1 5 0 0 = 0 ∧ m1.1 5 0 1 = 0 ∧ m1.1 3 0 3 = 0))) := by
  refine wX_of (N := zM127) rfl (Nat.le_of_ble_eq_true rfl) ?_
  show wW (zK sc) zM127 0 [(0, .inr (.inr (.inl (some (3, 0)))))] [] n m0 _
  have hF : zfr (fun k i j => (k = 3 ∧ j = 3) ∨ (k = 5)) m0 m0 := zfr_rf
  refine ww_go 3 (pc' := 5) (L' := [(0, .inr (.inr (.inl (some (3, 0)))))]) (st' := []) (m' := wuI m0 3 0 3 0) (o := some ((0 < 1))) rfl (show (0 < 1) from by omega) ?_
  obtain ⟨m1, hm1⟩ : ∃ zq9 : wm, zq9 = wuI m0 3 0 3 0 := ⟨_, rfl⟩
  rw [← hm1]
  have hGm1 : zB c m1 := by rw [hm1]; exact zB_wI rfl (show 0 ≤ (0 : Int) ∧ (0 : Int) ≤ 3 from by omega) hG
  have hFm1 : zfr (fun k i j => (k = 3 ∧ j = 3) ∨ (k = 5)) m0 m1 := by rw [hm1]; exact zfr_wI hF (show (3 = 3 ∧ 3 = 3) ∨ (3 = 5) from Or.inl (⟨rfl, rfl⟩))
  have s2 : m1.1 3 0 3 = (0 : Int) := by rw [hm1]; exact wuI_self
  have w3 : m1.1 5 0 0 = m0.1 5 0 0 := by rw [hm1]; rfl
  have w4 : m1.1 5 0 1 = m0.1 5 0 1 := by rw [hm1]; rfl
  refine ww_go 5 (pc' := 12) (L' := [(0, .inr (.inr (.inl (some (3, 0)))))]) (st' := []) (m' := wuI m1 5 0 0 0) (o := some ((0 < 1) ∧ (0 < 1 ∧ 0 ≤ (0 : Int) ∧ (0 : Int) < ((2 : Nat) : Int)))) rfl (show (0 < 1) ∧ (0 < 1 ∧ 0 ≤ (0 : Int) ∧ (0 : Int) < ((2 : Nat) : Int)) from by omega) ?_
  obtain ⟨m5, hm5⟩ : ∃ zq9 : wm, zq9 = wuI m1 5 0 0 0 := ⟨_, rfl⟩
  rw [← hm5]
  have hGm5 : zB c m5 := by rw [hm5]; exact zB_wI rfl (show 0 ≤ (0 : Int) ∧ (0 : Int) ≤ 1000 from by omega) hGm1
  have hFm5 : zfr (fun k i j => (k = 3 ∧ j = 3) ∨ (k = 5)) m0 m5 := by rw [hm5]; exact zfr_wI hFm1 (show (5 = 3 ∧ 0 = 3) ∨ (5 = 5) from Or.inr (rfl))
  have s6 : m5.1 5 0 0 = (0 : Int) := by rw [hm5]; exact wuI_self
  have w7 : m5.1 5 0 1 = m1.1 5 0 1 := by rw [hm5]; exact wuI_nj (by omega)
  have w8 : m5.1 3 0 3 = m1.1 3 0 3 := by rw [hm5]; rfl
  refine ww_go 5 (pc' := 19) (L' := [(0, .inr (.inr (.inl (some (3, 0)))))]) (st' := []) (m' := wuI m5 5 0 1 0) (o := some ((0 < 1) ∧ (0 < 1 ∧ 0 ≤ (1 : Int) ∧ (1 : Int) < ((2 : Nat) : Int)))) rfl (show (0 < 1) ∧ (0 < 1 ∧ 0 ≤ (1 : Int) ∧ (1 : Int) < ((2 : Nat) : Int)) from by omega) ?_
  obtain ⟨m9, hm9⟩ : ∃ zq9 : wm, zq9 = wuI m5 5 0 1 0 := ⟨_, rfl⟩
  rw [← hm9]
  have hGm9 : zB c m9 := by rw [hm9]; exact zB_wI rfl (show 0 ≤ (0 : Int) ∧ (0 : Int) ≤ 1000 from by omega) hGm5
  have hFm9 : zfr (fun k i j => (k = 3 ∧ j = 3) ∨ (k = 5)) m0 m9 := by rw [hm9]; exact zfr_wI hFm5 (show (5 = 3 ∧ 1 = 3) ∨ (5 = 5) from Or.inr (rfl))
  have s10 : m9.1 5 0 1 = (0 : Int) := by rw [hm9]; exact wuI_self
  have w11 : m9.1 5 0 0 = m5.1 5 0 0 := by rw [hm9]; exact wuI_nj (by omega)
  have w12 : m9.1 3 0 3 = m5.1 3 0 3 := by rw [hm9]; rfl
  exact ww_rV rfl rfl ⟨rfl, rfl, zB_mono hGm9 (by omega), hFm9, by omega⟩
set_option maxRecDepth 8000 in
/-- Sender.beginLife -/
theorem zs126 {sc : xSc} {n : Nat × Nat} {m0 : wm} {c : Int} (hc : 0 ≤ c ∧ c ≤ 1000000)  (hG : zB c m0) : wX (zK sc) 126 [.inr (.inr (.inl (some (3, 0))))] n m0 (wr (fun vv n1 m1 => ∃ r : Int, vv = some (.inl r) ∧ n = n1 ∧ zB c m1 ∧ zfr (fun k i j => (k = 3 ∧ j = 3) ∨ (k = 5) ∨ (k = 3 ∧ j = 2)) m0 m1 ∧ ((r = 0 ∧ m0.1 3 0 2 = 255 ∧ m0 = m1) ∨ (r = 1 ∧ m0.1 3 0 2 < 255 ∧ m1.1 3 0 2 = m0.1 3 0 2 + 1 ∧ m1.1 5 0 0 = 0 ∧ m1.1 5 0 1 = 0 ∧ m1.1 3 0 3 = 0)))) := by
  refine wX_of (N := zM126) rfl (Nat.le_of_ble_eq_true rfl) ?_
  show wW (zK sc) zM126 0 [(0, .inr (.inr (.inl (some (3, 0)))))] [] n m0 _
  have hF : zfr (fun k i j => (k = 3 ∧ j = 3) ∨ (k = 5) ∨ (k = 3 ∧ j = 2)) m0 m0 := zfr_rf
  have bl : 1 ≤ m0.1 3 0 2 ∧ m0.1 3 0 2 ≤ 255 := hG.1 3 _ rfl _ _
  have b1 : 1 ≤ m0.1 3 0 2 ∧ m0.1 3 0 2 ≤ 255 := hG.1 3 _ rfl _ _
  refine ww_go 3 (pc' := 7) (L' := [(0, .inr (.inr (.inl (some (3, 0)))))]) (st' := [.inl 255, .inl (m0.1 3 0 2)]) (m' := m0) (o := some ((0 < 1))) rfl (show (0 < 1) from by omega) ?_
  refine ww_ic (t := 12) rfl rfl (by omega) (fun (h2 : m0.1 3 0 2 < 255) => ?_) (fun (h2 : ¬ (m0.1 3 0 2 < 255)) => ?_)
  · show wW (zK sc) zM126 12 [(0, .inr (.inr (.inl (some (3, 0)))))] [] _ _ _
    have b3 : 1 ≤ m0.1 3 0 2 ∧ m0.1 3 0 2 ≤ 255 := hG.1 3 _ rfl _ _
    refine ww_go 6 (pc' := 22) (L' := [(0, .inr (.inr (.inl (some (3, 0)))))]) (st' := []) (m' := wuI m0 3 0 2 ((m0.1 3 0 2) + 1)) (o := some ((0 < 1) ∧ (0 < 1))) rfl (show (0 < 1) ∧ (0 < 1) from by omega) ?_
    obtain ⟨m4, hm4⟩ : ∃ zq9 : wm, zq9 = wuI m0 3 0 2 ((m0.1 3 0 2) + 1) := ⟨_, rfl⟩
    rw [← hm4]
    have hGm4 : zB c m4 := by rw [hm4]; exact zB_wI rfl (show 1 ≤ (m0.1 3 0 2) + 1 ∧ (m0.1 3 0 2) + 1 ≤ 255 from by omega) hG
    have hFm4 : zfr (fun k i j => (k = 3 ∧ j = 3) ∨ (k = 5) ∨ (k = 3 ∧ j = 2)) m0 m4 := by rw [hm4]; exact zfr_wI hF (show (3 = 3 ∧ 2 = 3) ∨ (3 = 5) ∨ (3 = 3 ∧ 2 = 2) from Or.inr (Or.inr (⟨rfl, rfl⟩)))
    have s5 : m4.1 3 0 2 = (m0.1 3 0 2) + 1 := by rw [hm4]; exact wuI_self
    refine ww_go 1 (pc' := 23) (L' := [(0, .inr (.inr (.inl (some (3, 0)))))]) (st' := [.inr (.inr (.inl (some (3, 0))))]) (m' := m4) (o := none) rfl trivial ?_
    refine ww_call (vs := [.inr (.inr (.inl (some (3, 0))))]) (r := []) (p := 0 < 1) rfl rfl rfl rfl (show 0 < 1 from by omega) (zs127 (c := c) (by omega) hGm4) ?_
    rintro _ _ m8 ⟨rfl, rfl, hGm8, hEm8, hr7⟩
    have hFm8 : zfr (fun k i j => (k = 3 ∧ j = 3) ∨ (k = 5) ∨ (k = 3 ∧ j = 2)) m0 m8 := zfr_tr hFm4 hEm8 (fun k i j z => Or.elim z (fun z => Or.inl z) (fun z => Or.inr (Or.inl z)))
    have w9 : m8.1 3 0 2 = m4.1 3 0 2 := (hEm8 3 0 2 (show ¬ ((3 = 3 ∧ 2 = 3) ∨ (3 = 5)) from by omega)).1
    show wW (zK sc) zM126 26 [(0, .inr (.inr (.inl (some (3, 0)))))] [] _ _ _
    refine ww_go 1 (pc' := 27) (L' := [(0, .inr (.inr (.inl (some (3, 0)))))]) (st' := [.inl 1]) (m' := m8) (o := none) rfl trivial ?_
    exact ww_rB rfl rfl (by omega) ⟨_, rfl, rfl, zB_mono hGm8 (by omega), hFm8, Or.inr (by omega)⟩
  · show wW (zK sc) zM126 10 [(0, .inr (.inr (.inl (some (3, 0)))))] [] _ _ _
    refine ww_go 1 (pc' := 11) (L' := [(0, .inr (.inr (.inl (some (3, 0)))))]) (st' := [.inl 0]) (m' := m0) (o := none) rfl trivial ?_
    exact ww_rB rfl rfl (by omega) ⟨_, rfl, rfl, zB_mono hG (by omega), hF, Or.inl ⟨rfl, by omega, rfl⟩⟩
set_option maxRecDepth 8000 in
/-- Sender.makeVersion -/
theorem zs132 {sc : xSc} {n : Nat × Nat} {m0 : wm} {c : Int} (hc : 0 ≤ c ∧ c ≤ 1000000) (x : Int) (hG : zB c m0) (h0 : 0 ≤ x ∧ x ≤ 1) : wX (zK sc) 132 [.inr (.inr (.inl (some (3, 0)))), .inl x] n m0 (wr (fun vv n1 m1 => ∃ r : Int, vv = some (.inl r) ∧ n = n1 ∧ zB c m1 ∧ zfr (fun k i j => (k = 3 ∧ j = 3) ∨ (k = 5) ∨ (k = 10 ∧ 3 * x.toNat ≤ i ∧ i < 3 * x.toNat + 3) ∨ (k = 1 ∧ 59 ≤ i ∧ i < 101 ∧ j = 1) ∨ (k = 2 ∧ 59 ≤ i ∧ i < 101) ∨ (k = 6 ∧ i = x.toNat ∧ j = 4)) m0 m1 ∧ ((r = 0 ∧ m0.1 6 x.toNat 4 = 1000 ∧ m0 = m1) ∨ (r = m0.1 6 x.toNat 4 + 1 ∧ m0.1 6 x.toNat 4 < 1000 ∧ m1.1 6 x.toNat 4 = r ∧ zRec m0 m1 (3 * x.toNat + ((m0.1 6 x.toNat 4 + 1) % 3).toNat) x.toNat (m0.1 6 x.toNat 4 + 1) ∧ m1.1 5 0 0 = 0 ∧ m1.1 5 0 1 = 0 ∧ m1.1 3 0 3 = 0)))) := by
  refine wX_of (N := zM132) rfl (Nat.le_of_ble_eq_true rfl) ?_
  show wW (zK sc) zM132 0 [(0, .inr (.inr (.inl (some (3, 0))))), (1, .inl x)] [] n m0 _
  have hF : zfr (fun k i j => (k = 3 ∧ j = 3) ∨ (k = 5) ∨ (k = 10 ∧ 3 * x.toNat ≤ i ∧ i < 3 * x.toNat + 3) ∨ (k = 1 ∧ 59 ≤ i ∧ i < 101 ∧ j = 1) ∨ (k = 2 ∧ 59 ≤ i ∧ i < 101) ∨ (k = 6 ∧ i = x.toNat ∧ j = 4)) m0 m0 := zfr_rf
  have bl : 0 ≤ m0.1 6 x.toNat 4 ∧ m0.1 6 x.toNat 4 ≤ 1000 := hG.1 6 _ rfl _ _
  refine ww_go 4 (pc' := 6) (L' := [(0, .inr (.inr (.inl (some (3, 0))))), (1, .inl x)]) (st' := [.inr (.inr (.inl (some (6, x.toNat))))]) (m' := m0) (o := some ((0 < 1) ∧ (0 < 1 ∧ 0 ≤ x ∧ x < ((2 : Nat) : Int)))) rfl (show (0 < 1) ∧ (0 < 1 ∧ 0 ≤ x ∧ x < ((2 : Nat) : Int)) from by omega) ?_
  refine ww_call (vs := [.inr (.inr (.inl (some (6, x.toNat))))]) (r := []) (p := x.toNat < 2) rfl rfl rfl rfl (show x.toNat < 2 from by omega) (zs57 (c := c) (by omega) x.toNat hG (by omega)) ?_
  rintro _ _ m3 ⟨r1, rfl, rfl, hGm3, hEm3, hr2⟩
  have hFm3 : zfr (fun k i j => (k = 3 ∧ j = 3) ∨ (k = 5) ∨ (k = 10 ∧ 3 * x.toNat ≤ i ∧ i < 3 * x.toNat + 3) ∨ (k = 1 ∧ 59 ≤ i ∧ i < 101 ∧ j = 1) ∨ (k = 2 ∧ 59 ≤ i ∧ i < 101) ∨ (k = 6 ∧ i = x.toNat ∧ j = 4)) m0 m3 := zfr_tr hF hEm3 (fun k i j z => Or.elim z (fun z => Or.inr (Or.inr (Or.inr (Or.inr (Or.inr (z)))))) (fun z => Or.elim z (fun z => Or.inr (Or.inr (Or.inl z))) (fun z => Or.elim z (fun z => Or.inr (Or.inr (Or.inr (Or.inl z)))) (fun z => Or.inr (Or.inr (Or.inr (Or.inr (Or.inl z))))))))
  show wW (zK sc) zM132 9 [(0, .inr (.inr (.inl (some (3, 0))))), (1, .inl x)] [.inl r1] _ _ _
  refine ww_go 2 (pc' := 11) (L' := [(2, .inl r1), (0, .inr (.inr (.inl (some (3, 0))))), (1, .inl x)]) (st' := [.inl r1]) (m' := m3) (o := none) rfl trivial ?_
  refine ww_if (t := 18) rfl rfl (by omega) (fun (h4 : r1 = 0) => ?_) (fun (h4 : ¬ (r1 = 0)) => ?_)
  · show wW (zK sc) zM132 18 [(2, .inl r1), (0, .inr (.inr (.inl (some (3, 0))))), (1, .inl x)] [] _ _ _
    refine ww_go 1 (pc' := 19) (L' := [(2, .inl r1), (0, .inr (.inr (.inl (some (3, 0))))), (1, .inl x)]) (st' := [.inl r1]) (m' := m3) (o := none) rfl trivial ?_
    exact ww_rI rfl rfl ⟨_, rfl, rfl, zB_mono hGm3 (by omega), hFm3, Or.elim hr2 (fun z => Or.inl ⟨by omega, z.2.1, z.2.2⟩) (fun z => absurd z.1 (by omega))⟩
  · show wW (zK sc) zM132 14 [(2, .inl r1), (0, .inr (.inr (.inl (some (3, 0))))), (1, .inl x)] [] _ _ _
    refine ww_go 1 (pc' := 15) (L' := [(2, .inl r1), (0, .inr (.inr (.inl (some (3, 0))))), (1, .inl x)]) (st' := [.inr (.inr (.inl (some (3, 0))))]) (m' := m3) (o := none) rfl trivial ?_
    refine ww_call (vs := [.inr (.inr (.inl (some (3, 0))))]) (r := []) (p := 0 < 1) rfl rfl rfl rfl (show 0 < 1 from by omega) (zs127 (c := c) (by omega) hGm3) ?_
    rintro _ _ m7 ⟨rfl, rfl, hGm7, hEm7, hr6⟩
    have hFm7 : zfr (fun k i j => (k = 3 ∧ j = 3) ∨ (k = 5) ∨ (k = 10 ∧ 3 * x.toNat ≤ i ∧ i < 3 * x.toNat + 3) ∨ (k = 1 ∧ 59 ≤ i ∧ i < 101 ∧ j = 1) ∨ (k = 2 ∧ 59 ≤ i ∧ i < 101) ∨ (k = 6 ∧ i = x.toNat ∧ j = 4)) m0 m7 := zfr_tr hFm3 hEm7 (fun k i j z => Or.elim z (fun z => Or.inl z) (fun z => Or.inr (Or.inl z)))
    have w8 : m7.1 6 x.toNat 4 = m3.1 6 x.toNat 4 := (hEm7 6 x.toNat 4 (show ¬ ((6 = 3 ∧ 4 = 3) ∨ (6 = 5)) from by omega)).1
    show wW (zK sc) zM132 18 [(2, .inl r1), (0, .inr (.inr (.inl (some (3, 0))))), (1, .inl x)] [] _ _ _
    refine ww_go 1 (pc' := 19) (L' := [(2, .inl r1), (0, .inr (.inr (.inl (some (3, 0))))), (1, .inl x)]) (st' := [.inl r1]) (m' := m7) (o := none) rfl trivial ?_
    exact ww_rI rfl rfl ⟨_, rfl, rfl, zB_mono hGm7 (by omega), hFm7, Or.inr (Or.elim hr2 (fun z => absurd z.1 (by omega)) (fun z => ⟨by omega, by omega, by omega, zRec_fr z.2.2.2 hEm7 (fun k i j hk => (show ¬ ((k = 3 ∧ j = 3) ∨ (k = 5)) from by omega)), by omega, by omega, by omega⟩))⟩
set_option maxRecDepth 8000 in
/-- Sender.oldestAge -/
theorem zs133 {sc : xSc} {n : Nat × Nat} {m : wm} (x : Int) (h0 : -2147483648 ≤ x ∧ x ≤ 2147483647) : wX (zK sc) 133 [.inl x] n m (wr (fun vv n1 m1 => ∃ r : Int, vv = some (.inl r) ∧ n = n1 ∧ m = m1 ∧ ((x = 1 ∧ r = 2) ∨ (x ≠ 1 ∧ r = 0)))) := by
  refine wX_of (N := zM133) rfl (Nat.le_of_ble_eq_true rfl) ?_
  show wW (zK sc) zM133 0 [(0, .inl x)] [] n m _
  refine ww_go 2 (pc' := 2) (L' := [(0, .inl x)]) (st' := [.inl 1, .inl x]) (m' := m) (o := none) rfl trivial ?_
  refine ww_ic (t := 9) rfl rfl (by omega) (fun (h1 : x ≠ 1) => ?_) (fun (h1 : ¬ (x ≠ 1)) => ?_)
  · show wW (zK sc) zM133 9 [(0, .inl x)] [] _ _ _
    refine ww_go 1 (pc' := 10) (L' := [(0, .inl x)]) (st' := [.inl 0]) (m' := m) (o := none) rfl trivial ?_
    exact ww_rI rfl rfl ⟨_, rfl, rfl, rfl, by omega⟩
  · show wW (zK sc) zM133 5 [(0, .inl x)] [] _ _ _
    refine ww_go 2 (pc' := 10) (L' := [(0, .inl x)]) (st' := [.inl 2]) (m' := m) (o := none) rfl trivial ?_
    exact ww_rI rfl rfl ⟨_, rfl, rfl, rfl, by omega⟩
set_option maxRecDepth 8000 in
/-- Sender.youngestAge -/
theorem zs135 {sc : xSc} {n : Nat × Nat} {m : wm} (x : Int) (h0 : -2147483648 ≤ x ∧ x ≤ 2147483647) : wX (zK sc) 135 [.inl x] n m (wr (fun vv n1 m1 => ∃ r : Int, vv = some (.inl r) ∧ n = n1 ∧ m = m1 ∧ ((x = 1 ∧ r = 1) ∨ (x ≠ 1 ∧ r = 0)))) := by
  refine wX_of (N := zM135) rfl (Nat.le_of_ble_eq_true rfl) ?_
  show wW (zK sc) zM135 0 [(0, .inl x)] [] n m _
  refine ww_go 2 (pc' := 2) (L' := [(0, .inl x)]) (st' := [.inl 1, .inl x]) (m' := m) (o := none) rfl trivial ?_
  refine ww_ic (t := 9) rfl rfl (by omega) (fun (h1 : x ≠ 1) => ?_) (fun (h1 : ¬ (x ≠ 1)) => ?_)
  · show wW (zK sc) zM135 9 [(0, .inl x)] [] _ _ _
    refine ww_go 1 (pc' := 10) (L' := [(0, .inl x)]) (st' := [.inl 0]) (m' := m) (o := none) rfl trivial ?_
    exact ww_rI rfl rfl ⟨_, rfl, rfl, rfl, by omega⟩
  · show wW (zK sc) zM135 5 [(0, .inl x)] [] _ _ _
    refine ww_go 2 (pc' := 10) (L' := [(0, .inl x)]) (st' := [.inl 1]) (m' := m) (o := none) rfl trivial ?_
    exact ww_rI rfl rfl ⟨_, rfl, rfl, rfl, by omega⟩
set_option maxRecDepth 8000 in
theorem zs134_l4 {sc : xSc} {n : Nat × Nat} {m : wm} {c : Int} (hc : 0 ≤ c ∧ c ≤ 1000000) (x : Int) (hG : zB c m) (h0 : 0 ≤ x ∧ x ≤ 1) : ∀ (d : Nat), (∀ (y : Int) (z : Int), (2 - z).toNat * 100 + 99 = d → (0 ≤ z ∧ z ≤ 2 ∧ 0 ≤ y ∧ y ≤ 448 * z) → (y = zPH m x z) →  wW (zK sc) zM134 4 [(0, .inr (.inr (.inl (some (3, 0))))), (1, .inl x), (2, .inl y), (3, .inl z)] [] n m (wr (fun vv n1 m1 => ∃ r : Int, vv = some (.inl r) ∧ n = n1 ∧ m = m1 ∧ (r = zPO m x ∧ 0 ≤ r ∧ r ≤ 1000)))) ∧ (∀ (y : Int) (z : Int) (w : Int), (2 - z).toNat * 100 + (w + 1).toNat = d → (0 ≤ z ∧ z ≤ 1 ∧ -1 ≤ w ∧ w ≤ 2 ∧ (x = 1 → 0 ≤ w ∧ y ≤ 448 * z + 224 * (2 - w)) ∧ (x = 0 → w ≤ 0 ∧ y ≤ 448 * z + 224 * (0 - w)) ∧ 0 ≤ y) → (y = zPH m x z + zPI m x z.toNat w) →  wW (zK sc) zM134 15 [(0, .inr (.inr (.inl (some (3, 0))))), (1, .inl x), (2, .inl y), (3, .inl z), (4, .inl w)] [] n m (wr (fun vv n1 m1 => ∃ r : Int, vv = some (.inl r) ∧ n = n1 ∧ m = m1 ∧ (r = zPO m x ∧ 0 ≤ r ∧ r ≤ 1000)))) := by
  intro d
  induction d using Nat.strongRecOn with
  | ind d ih =>
    refine ⟨?_, ?_⟩
    · intro y z hd hi hj
      have pe9 := zPH_e m x z
      refine ww_go 2 (pc' := 6) (L' := [(0, .inr (.inr (.inl (some (3, 0))))), (1, .inl x), (2, .inl y), (3, .inl z)]) (st' := [.inl 2, .inl z]) (m' := m) (o := none) rfl trivial ?_
      refine ww_ic (t := 66) rfl rfl (by omega) (fun (h1 : 2 ≤ z) => ?_) (fun (h1 : ¬ (2 ≤ z)) => ?_)
      · show wW (zK sc) zM134 66 [(0, .inr (.inr (.inl (some (3, 0))))), (1, .inl x), (2, .inl y), (3, .inl z)] [] _ _ _
        refine ww_go 1 (pc' := 67) (L' := [(0, .inr (.inr (.inl (some (3, 0))))), (1, .inl x), (2, .inl y), (3, .inl z)]) (st' := [.inl y]) (m' := m) (o := none) rfl trivial ?_
        exact ww_rI rfl rfl ⟨_, rfl, rfl, rfl, by omega⟩
      · show wW (zK sc) zM134 9 [(0, .inr (.inr (.inl (some (3, 0))))), (1, .inl x), (2, .inl y), (3, .inl z)] [] _ _ _
        refine ww_go 1 (pc' := 10) (L' := [(0, .inr (.inr (.inl (some (3, 0))))), (1, .inl x), (2, .inl y), (3, .inl z)]) (st' := [.inl x]) (m' := m) (o := none) rfl trivial ?_
        refine ww_call (vs := [.inl x]) (r := []) (p := True) rfl rfl rfl rfl trivial (zs133 x (by omega)) ?_
        rintro _ _ _ ⟨r2, rfl, rfl, rfl, hr3⟩
        show wW (zK sc) zM134 13 [(0, .inr (.inr (.inl (some (3, 0))))), (1, .inl x), (2, .inl y), (3, .inl z)] [.inl r2] _ _ _
        refine ww_go 1 (pc' := 15) (L' := [(4, .inl r2), (0, .inr (.inr (.inl (some (3, 0))))), (1, .inl x), (2, .inl y), (3, .inl z)]) (st' := []) (m' := m) (o := none) rfl trivial ?_
        refine ww_sub (L := [(0, .inr (.inr (.inl (some (3, 0))))), (1, .inl x), (2, .inl y), (3, .inl z), (4, .inl r2)]) ⟨rfl, rfl, rfl, rfl, rfl, trivial⟩ rfl rfl ?_
        exact (ih _ (by omega)).2 y z r2 rfl (by omega) (by have z1 := zPI_0 m x z.toNat r2 (by omega); omega)
    · intro y z w hd hi hj
      have pfc := zFP_c m z.toNat w
      have pi9 := zPI_s m x z.toNat w
      have pj9 := zPI_e m x z.toNat w
      have ph9 := zPH_s m x z (by omega) (by omega)
      refine ww_go 2 (pc' := 18) (L' := [(0, .inr (.inr (.inl (some (3, 0))))), (1, .inl x), (2, .inl y), (3, .inl z), (4, .inl w)]) (st' := [.inl x, .inl w]) (m' := m) (o := none) rfl trivial ?_
      refine ww_call (vs := [.inl x]) (r := [.inl w]) (p := True) rfl rfl rfl rfl trivial (zs135 x (by omega)) ?_
      rintro _ _ _ ⟨r1, rfl, rfl, rfl, hr2⟩
      show wW (zK sc) zM134 21 [(0, .inr (.inr (.inl (some (3, 0))))), (1, .inl x), (2, .inl y), (3, .inl z), (4, .inl w)] [.inl r1, .inl w] _ _ _
      refine ww_ic (t := 60) rfl rfl (by omega) (fun (h3 : w < r1) => ?_) (fun (h3 : ¬ (w < r1)) => ?_)
      · show wW (zK sc) zM134 60 [(0, .inr (.inr (.inl (some (3, 0))))), (1, .inl x), (2, .inl y), (3, .inl z), (4, .inl w)] [] _ _ _
        refine ww_go 2 (pc' := 4) (L' := [(3, .inl (z + 1)), (0, .inr (.inr (.inl (some (3, 0))))), (1, .inl x), (2, .inl y), (4, .inl w)]) (st' := []) (m' := m) (o := none) rfl trivial ?_
        refine ww_sub (L := [(0, .inr (.inr (.inl (some (3, 0))))), (1, .inl x), (2, .inl y), (3, .inl (z + 1))]) ⟨rfl, rfl, rfl, rfl, trivial⟩ rfl rfl ?_
        exact (ih _ (by omega)).1 y (z + 1) rfl (by omega) (by omega)
      · show wW (zK sc) zM134 24 [(0, .inr (.inr (.inl (some (3, 0))))), (1, .inl x), (2, .inl y), (3, .inl z), (4, .inl w)] [] _ _ _
        refine ww_go 5 (pc' := 32) (L' := [(0, .inr (.inr (.inl (some (3, 0))))), (1, .inl x), (2, .inl y), (3, .inl z), (4, .inl w)]) (st' := [.inl w, .inr (.inr (.inl (some (6, z.toNat))))]) (m' := m) (o := some ((0 < 1) ∧ (0 < 1 ∧ 0 ≤ z ∧ z < ((2 : Nat) : Int)))) rfl (show (0 < 1) ∧ (0 < 1 ∧ 0 ≤ z ∧ z < ((2 : Nat) : Int)) from by omega) ?_
        refine ww_call (vs := [.inr (.inr (.inl (some (6, z.toNat)))), .inl w]) (r := []) (p := z.toNat < 2) rfl rfl rfl rfl (show z.toNat < 2 from by omega) (zs54 (c := c) (by omega) w z.toNat hG (by omega)) ?_
        rintro _ _ _ ⟨r4, rfl, rfl, rfl, hr5⟩
        rcases hr5 with ⟨rfl, hr7⟩ | ⟨e6, rfl, hr7⟩
        · show wW (zK sc) zM134 35 [(0, .inr (.inr (.inl (some (3, 0))))), (1, .inl x), (2, .inl y), (3, .inl z), (4, .inl w)] [.inr (.inr (.inl none))] _ _ _
          refine ww_go 3 (pc' := 40) (L' := [(5, .inr (.inr (.inl none))), (0, .inr (.inr (.inl (some (3, 0))))), (1, .inl x), (2, .inl y), (3, .inl z), (4, .inl w)]) (st' := [.inr (.inr (.inl none)), .inl y]) (m' := m) (o := none) rfl trivial ?_
          refine ww_nn (t := 47) rfl rfl (fun zz9 h => by cases h) (fun h => ?_)
          show wW (zK sc) zM134 43 [(5, .inr (.inr (.inl none))), (0, .inr (.inr (.inl (some (3, 0))))), (1, .inl x), (2, .inl y), (3, .inl z), (4, .inl w)] [.inl y] _ _ _
          refine ww_go 6 (pc' := 15) (L' := [(4, .inl (w + (-1))), (2, .inl (y + 0)), (5, .inr (.inr (.inl none))), (0, .inr (.inr (.inl (some (3, 0))))), (1, .inl x), (3, .inl z)]) (st' := []) (m' := m) (o := none) rfl trivial ?_
          refine ww_sub (L := [(0, .inr (.inr (.inl (some (3, 0))))), (1, .inl x), (2, .inl (y + 0)), (3, .inl z), (4, .inl (w + (-1)))]) ⟨rfl, rfl, rfl, rfl, rfl, trivial⟩ rfl rfl ?_
          exact (ih _ (by omega)).2 (y + 0) z (w + (-1)) rfl (by omega) (by omega)
        · show wW (zK sc) zM134 35 [(0, .inr (.inr (.inl (some (3, 0))))), (1, .inl x), (2, .inl y), (3, .inl z), (4, .inl w)] [.inr (.inr (.inl (some (10, e6))))] _ _ _
          have ze9 : zEP m e6 = zFP m z.toNat w := by rw [pfc.1 (by omega), show e6 = 3 * z.toNat + ((m.1 6 z.toNat 4 - w) % 3).toNat from by omega]
          refine ww_go 3 (pc' := 40) (L' := [(5, .inr (.inr (.inl (some (10, e6))))), (0, .inr (.inr (.inl (some (3, 0))))), (1, .inl x), (2, .inl y), (3, .inl z), (4, .inl w)]) (st' := [.inr (.inr (.inl (some (10, e6)))), .inl y]) (m' := m) (o := none) rfl trivial ?_
          refine ww_nn (t := 47) rfl rfl (fun zz9 h => ?_) (fun h => by cases h)
          show wW (zK sc) zM134 47 [(5, .inr (.inr (.inl (some (10, e6))))), (0, .inr (.inr (.inl (some (3, 0))))), (1, .inl x), (2, .inl y), (3, .inl z), (4, .inl w)] [.inl y] _ _ _
          refine ww_go 1 (pc' := 49) (L' := [(5, .inr (.inr (.inl (some (10, e6))))), (0, .inr (.inr (.inl (some (3, 0))))), (1, .inl x), (2, .inl y), (3, .inl z), (4, .inl w)]) (st' := [.inr (.inr (.inl (some (10, e6)))), .inl y]) (m' := m) (o := none) rfl trivial ?_
          refine ww_call (vs := [.inr (.inr (.inl (some (10, e6))))]) (r := [.inl y]) (p := e6 < 6) rfl rfl rfl rfl (show e6 < 6 from by omega) (zs49 (c := c) (by omega) e6 hG (by omega)) ?_
          rintro _ _ _ ⟨r8, rfl, rfl, rfl, hr9⟩
          show wW (zK sc) zM134 52 [(5, .inr (.inr (.inl (some (10, e6))))), (0, .inr (.inr (.inl (some (3, 0))))), (1, .inl x), (2, .inl y), (3, .inl z), (4, .inl w)] [.inl r8, .inl y] _ _ _
          refine ww_go 4 (pc' := 15) (L' := [(4, .inl (w + (-1))), (2, .inl (y + r8)), (5, .inr (.inr (.inl (some (10, e6))))), (0, .inr (.inr (.inl (some (3, 0))))), (1, .inl x), (3, .inl z)]) (st' := []) (m' := m) (o := none) rfl trivial ?_
          refine ww_sub (L := [(0, .inr (.inr (.inl (some (3, 0))))), (1, .inl x), (2, .inl (y + r8)), (3, .inl z), (4, .inl (w + (-1)))]) ⟨rfl, rfl, rfl, rfl, rfl, trivial⟩ rfl rfl ?_
          exact (ih _ (by omega)).2 (y + r8) z (w + (-1)) rfl (by omega) (by omega)
set_option maxRecDepth 8000 in
/-- Sender.packetsOf -/
theorem zs134 {sc : xSc} {n : Nat × Nat} {m : wm} {c : Int} (hc : 0 ≤ c ∧ c ≤ 1000000) (x : Int) (hG : zB c m) (h0 : 0 ≤ x ∧ x ≤ 1) : wX (zK sc) 134 [.inr (.inr (.inl (some (3, 0)))), .inl x] n m (wr (fun vv n1 m1 => ∃ r : Int, vv = some (.inl r) ∧ n = n1 ∧ m = m1 ∧ (r = zPO m x ∧ 0 ≤ r ∧ r ≤ 1000))) := by
  refine wX_of (N := zM134) rfl (Nat.le_of_ble_eq_true rfl) ?_
  show wW (zK sc) zM134 0 [(0, .inr (.inr (.inl (some (3, 0))))), (1, .inl x)] [] n m _
  refine ww_go 4 (pc' := 4) (L' := [(3, .inl 0), (2, .inl 0), (0, .inr (.inr (.inl (some (3, 0))))), (1, .inl x)]) (st' := []) (m' := m) (o := none) rfl trivial ?_
  refine ww_sub (L := [(0, .inr (.inr (.inl (some (3, 0))))), (1, .inl x), (2, .inl 0), (3, .inl 0)]) ⟨rfl, rfl, rfl, rfl, trivial⟩ rfl rfl ?_
  exact (zs134_l4 hc x hG h0 _).1 0 0 rfl (by omega) (by have z1 := zPH_e m x 0; omega)
set_option maxRecDepth 8000 in
theorem zs128_l6 {sc : xSc} {n : Nat × Nat} {m0 : wm} {c : Int} (hc : 0 ≤ c ∧ c ≤ 1000000) (x : Int) (y : Int) (s : Nat) (hG : zB c m0) (h0 : 3 ≤ s ∧ s < 35 ∧ 0 ≤ x ∧ x ≤ 1 ∧ 0 ≤ y ∧ y ≤ 1000) : ∀ (d : Nat), (∀ (w : Int) (z : Int), (2 - z).toNat * 100 + 99 = d → (0 ≤ z ∧ z ≤ 2 ∧ 0 ≤ w ∧ w ≤ 1000) → (w = y - zPH m0 x z) →  wW (zK sc) zM128 6 [(0, .inr (.inr (.inl (some (3, 0))))), (1, .inr (.inr (.inl (some (1, s))))), (2, .inl x), (4, .inl w), (5, .inl z)] [] n m0 (wr (fun vv n1 m1 => vv = none ∧ n = n1 ∧ zB c m1 ∧ zfr (fun k i j => (k = 1 ∧ i = s ∧ j = 1) ∨ (k = 2 ∧ i = s)) m0 m1 ∧ (y < zPO m0 x → m1.1 1 s 1 = 24 ∧ zFil m0 m1 s x y (m0.1 3 0 2))))) ∧ (∀ (w : Int) (z : Int) (v : Int), (2 - z).toNat * 100 + (v + 1).toNat = d → (0 ≤ z ∧ z ≤ 1 ∧ -1 ≤ v ∧ v ≤ 2 ∧ 0 ≤ w ∧ w ≤ 1000 ∧ (x = 1 → 0 ≤ v) ∧ (x = 0 → v ≤ 0)) → (w = y - zPH m0 x z - zPI m0 x z.toNat v) →  wW (zK sc) zM128 18 [(0, .inr (.inr (.inl (some (3, 0))))), (1, .inr (.inr (.inl (some (1, s))))), (2, .inl x), (4, .inl w), (5, .inl z), (6, .inl v)] [] n m0 (wr (fun vv n1 m1 => vv = none ∧ n = n1 ∧ zB c m1 ∧ zfr (fun k i j => (k = 1 ∧ i = s ∧ j = 1) ∨ (k = 2 ∧ i = s)) m0 m1 ∧ (y < zPO m0 x → m1.1 1 s 1 = 24 ∧ zFil m0 m1 s x y (m0.1 3 0 2))))) := by
  intro d
  induction d using Nat.strongRecOn with
  | ind d ih =>
    refine ⟨?_, ?_⟩
    · intro w z hd hi hj
      have pe9 := zPH_e m0 x z
      have hF : zfr (fun k i j => (k = 1 ∧ i = s ∧ j = 1) ∨ (k = 2 ∧ i = s)) m0 m0 := zfr_rf
      refine ww_go 2 (pc' := 9) (L' := [(0, .inr (.inr (.inl (some (3, 0))))), (1, .inr (.inr (.inl (some (1, s))))), (2, .inl x), (4, .inl w), (5, .inl z)]) (st' := [.inl 2, .inl z]) (m' := m0) (o := none) rfl trivial ?_
      refine ww_ic (t := 103) rfl rfl (by omega) (fun (h1 : 2 ≤ z) => ?_) (fun (h1 : ¬ (2 ≤ z)) => ?_)
      · show wW (zK sc) zM128 103 [(0, .inr (.inr (.inl (some (3, 0))))), (1, .inr (.inr (.inl (some (1, s))))), (2, .inl x), (4, .inl w), (5, .inl z)] [] _ _ _
        exact ww_rV rfl rfl ⟨rfl, rfl, zB_mono hG (by omega), hF, fun z9 => absurd z9 (by omega)⟩
      · show wW (zK sc) zM128 12 [(0, .inr (.inr (.inl (some (3, 0))))), (1, .inr (.inr (.inl (some (1, s))))), (2, .inl x), (4, .inl w), (5, .inl z)] [] _ _ _
        refine ww_go 1 (pc' := 13) (L' := [(0, .inr (.inr (.inl (some (3, 0))))), (1, .inr (.inr (.inl (some (1, s))))), (2, .inl x), (4, .inl w), (5, .inl z)]) (st' := [.inl x]) (m' := m0) (o := none) rfl trivial ?_
        refine ww_call (vs := [.inl x]) (r := []) (p := True) rfl rfl rfl rfl trivial (zs133 x (by omega)) ?_
        rintro _ _ _ ⟨r2, rfl, rfl, rfl, hr3⟩
        show wW (zK sc) zM128 16 [(0, .inr (.inr (.inl (some (3, 0))))), (1, .inr (.inr (.inl (some (1, s))))), (2, .inl x), (4, .inl w), (5, .inl z)] [.inl r2] _ _ _
        refine ww_go 1 (pc' := 18) (L' := [(6, .inl r2), (0, .inr (.inr (.inl (some (3, 0))))), (1, .inr (.inr (.inl (some (1, s))))), (2, .inl x), (4, .inl w), (5, .inl z)]) (st' := []) (m' := m0) (o := none) rfl trivial ?_
        refine ww_sub (L := [(0, .inr (.inr (.inl (some (3, 0))))), (1, .inr (.inr (.inl (some (1, s))))), (2, .inl x), (4, .inl w), (5, .inl z), (6, .inl r2)]) ⟨rfl, rfl, rfl, rfl, rfl, rfl, trivial⟩ rfl rfl ?_
        exact (ih _ (by omega)).2 w z r2 rfl (by omega) (by have z1 := zPI_0 m0 x z.toNat r2 (by omega); omega)
    · intro w z v hd hi hj
      have pfc := zFP_c m0 z.toNat v
      have pi9 := zPI_s m0 x z.toNat v
      have pj9 := zPI_e m0 x z.toNat v
      have ph9 := zPH_s m0 x z (by omega) (by omega)
      have hF : zfr (fun k i j => (k = 1 ∧ i = s ∧ j = 1) ∨ (k = 2 ∧ i = s)) m0 m0 := zfr_rf
      refine ww_go 2 (pc' := 21) (L' := [(0, .inr (.inr (.inl (some (3, 0))))), (1, .inr (.inr (.inl (some (1, s))))), (2, .inl x), (4, .inl w), (5, .inl z), (6, .inl v)]) (st' := [.inl x, .inl v]) (m' := m0) (o := none) rfl trivial ?_
      refine ww_call (vs := [.inl x]) (r := [.inl v]) (p := True) rfl rfl rfl rfl trivial (zs135 x (by omega)) ?_
      rintro _ _ _ ⟨r1, rfl, rfl, rfl, hr2⟩
      show wW (zK sc) zM128 24 [(0, .inr (.inr (.inl (some (3, 0))))), (1, .inr (.inr (.inl (some (1, s))))), (2, .inl x), (4, .inl w), (5, .inl z), (6, .inl v)] [.inl r1, .inl v] _ _ _
      refine ww_ic (t := 97) rfl rfl (by omega) (fun (h3 : v < r1) => ?_) (fun (h3 : ¬ (v < r1)) => ?_)
      · show wW (zK sc) zM128 97 [(0, .inr (.inr (.inl (some (3, 0))))), (1, .inr (.inr (.inl (some (1, s))))), (2, .inl x), (4, .inl w), (5, .inl z), (6, .inl v)] [] _ _ _
        refine ww_go 2 (pc' := 6) (L' := [(5, .inl (z + 1)), (0, .inr (.inr (.inl (some (3, 0))))), (1, .inr (.inr (.inl (some (1, s))))), (2, .inl x), (4, .inl w), (6, .inl v)]) (st' := []) (m' := m0) (o := none) rfl trivial ?_
        refine ww_sub (L := [(0, .inr (.inr (.inl (some (3, 0))))), (1, .inr (.inr (.inl (some (1, s))))), (2, .inl x), (4, .inl w), (5, .inl (z + 1))]) ⟨rfl, rfl, rfl, rfl, rfl, trivial⟩ rfl rfl ?_
        exact (ih _ (by omega)).1 w (z + 1) rfl (by omega) (by omega)
      · show wW (zK sc) zM128 27 [(0, .inr (.inr (.inl (some (3, 0))))), (1, .inr (.inr (.inl (some (1, s))))), (2, .inl x), (4, .inl w), (5, .inl z), (6, .inl v)] [] _ _ _
        refine ww_go 5 (pc' := 36) (L' := [(0, .inr (.inr (.inl (some (3, 0))))), (1, .inr (.inr (.inl (some (1, s))))), (2, .inl x), (4, .inl w), (5, .inl z), (6, .inl v)]) (st' := [.inl v, .inr (.inr (.inl (some (6, z.toNat))))]) (m' := m0) (o := some ((0 < 1) ∧ (0 < 1 ∧ 0 ≤ z ∧ z < ((2 : Nat) : Int)))) rfl (show (0 < 1) ∧ (0 < 1 ∧ 0 ≤ z ∧ z < ((2 : Nat) : Int)) from by omega) ?_
        refine ww_call (vs := [.inr (.inr (.inl (some (6, z.toNat)))), .inl v]) (r := []) (p := z.toNat < 2) rfl rfl rfl rfl (show z.toNat < 2 from by omega) (zs54 (c := c) (by omega) v z.toNat hG (by omega)) ?_
        rintro _ _ _ ⟨r4, rfl, rfl, rfl, hr5⟩
        rcases hr5 with ⟨rfl, hr7⟩ | ⟨e6, rfl, hr7⟩
        · show wW (zK sc) zM128 39 [(0, .inr (.inr (.inl (some (3, 0))))), (1, .inr (.inr (.inl (some (1, s))))), (2, .inl x), (4, .inl w), (5, .inl z), (6, .inl v)] [.inr (.inr (.inl none))] _ _ _
          refine ww_go 2 (pc' := 43) (L' := [(7, .inr (.inr (.inl none))), (0, .inr (.inr (.inl (some (3, 0))))), (1, .inr (.inr (.inl (some (1, s))))), (2, .inl x), (4, .inl w), (5, .inl z), (6, .inl v)]) (st' := [.inr (.inr (.inl none))]) (m' := m0) (o := none) rfl trivial ?_
          refine ww_nn (t := 50) rfl rfl (fun zz9 h => by cases h) (fun h => ?_)
          show wW (zK sc) zM128 46 [(7, .inr (.inr (.inl none))), (0, .inr (.inr (.inl (some (3, 0))))), (1, .inr (.inr (.inl (some (1, s))))), (2, .inl x), (4, .inl w), (5, .inl z), (6, .inl v)] [] _ _ _
          refine ww_go 4 (pc' := 59) (L' := [(8, .inl 0), (7, .inr (.inr (.inl none))), (0, .inr (.inr (.inl (some (3, 0))))), (1, .inr (.inr (.inl (some (1, s))))), (2, .inl x), (4, .inl w), (5, .inl z), (6, .inl v)]) (st' := [.inr (.inr (.inl none))]) (m' := m0) (o := none) rfl trivial ?_
          refine ww_nu (t := 84) rfl rfl (fun h => ?_) (fun zz9 h => by cases h)
          show wW (zK sc) zM128 84 [(8, .inl 0), (7, .inr (.inr (.inl none))), (0, .inr (.inr (.inl (some (3, 0))))), (1, .inr (.inr (.inl (some (1, s))))), (2, .inl x), (4, .inl w), (5, .inl z), (6, .inl v)] [] _ _ _
          refine ww_go 6 (pc' := 18) (L' := [(6, .inl (v + (-1))), (4, .inl (w - 0)), (8, .inl 0), (7, .inr (.inr (.inl none))), (0, .inr (.inr (.inl (some (3, 0))))), (1, .inr (.inr (.inl (some (1, s))))), (2, .inl x), (5, .inl z)]) (st' := []) (m' := m0) (o := none) rfl trivial ?_
          refine ww_sub (L := [(0, .inr (.inr (.inl (some (3, 0))))), (1, .inr (.inr (.inl (some (1, s))))), (2, .inl x), (4, .inl (w - 0)), (5, .inl z), (6, .inl (v + (-1)))]) ⟨rfl, rfl, rfl, rfl, rfl, rfl, trivial⟩ rfl rfl ?_
          exact (ih _ (by omega)).2 (w - 0) z (v + (-1)) rfl (by omega) (by omega)
        · show wW (zK sc) zM128 39 [(0, .inr (.inr (.inl (some (3, 0))))), (1, .inr (.inr (.inl (some (1, s))))), (2, .inl x), (4, .inl w), (5, .inl z), (6, .inl v)] [.inr (.inr (.inl (some (10, e6))))] _ _ _
          have ze9 : zEP m0 e6 = zFP m0 z.toNat v := by rw [pfc.1 (by omega), show e6 = 3 * z.toNat + ((m0.1 6 z.toNat 4 - v) % 3).toNat from by omega]
          refine ww_go 2 (pc' := 43) (L' := [(7, .inr (.inr (.inl (some (10, e6))))), (0, .inr (.inr (.inl (some (3, 0))))), (1, .inr (.inr (.inl (some (1, s))))), (2, .inl x), (4, .inl w), (5, .inl z), (6, .inl v)]) (st' := [.inr (.inr (.inl (some (10, e6))))]) (m' := m0) (o := none) rfl trivial ?_
          refine ww_nn (t := 50) rfl rfl (fun zz9 h => ?_) (fun h => by cases h)
          show wW (zK sc) zM128 50 [(7, .inr (.inr (.inl (some (10, e6))))), (0, .inr (.inr (.inl (some (3, 0))))), (1, .inr (.inr (.inl (some (1, s))))), (2, .inl x), (4, .inl w), (5, .inl z), (6, .inl v)] [] _ _ _
          refine ww_go 1 (pc' := 52) (L' := [(7, .inr (.inr (.inl (some (10, e6))))), (0, .inr (.inr (.inl (some (3, 0))))), (1, .inr (.inr (.inl (some (1, s))))), (2, .inl x), (4, .inl w), (5, .inl z), (6, .inl v)]) (st' := [.inr (.inr (.inl (some (10, e6))))]) (m' := m0) (o := none) rfl trivial ?_
          refine ww_call (vs := [.inr (.inr (.inl (some (10, e6))))]) (r := []) (p := e6 < 6) rfl rfl rfl rfl (show e6 < 6 from by omega) (zs49 (c := c) (by omega) e6 hG (by omega)) ?_
          rintro _ _ _ ⟨r8, rfl, rfl, rfl, hr9⟩
          show wW (zK sc) zM128 55 [(7, .inr (.inr (.inl (some (10, e6))))), (0, .inr (.inr (.inl (some (3, 0))))), (1, .inr (.inr (.inl (some (1, s))))), (2, .inl x), (4, .inl w), (5, .inl z), (6, .inl v)] [.inl r8] _ _ _
          refine ww_go 2 (pc' := 59) (L' := [(8, .inl r8), (7, .inr (.inr (.inl (some (10, e6))))), (0, .inr (.inr (.inl (some (3, 0))))), (1, .inr (.inr (.inl (some (1, s))))), (2, .inl x), (4, .inl w), (5, .inl z), (6, .inl v)]) (st' := [.inr (.inr (.inl (some (10, e6))))]) (m' := m0) (o := none) rfl trivial ?_
          refine ww_nu (t := 84) rfl rfl (fun h => by cases h) (fun zz9 h => ?_)
          show wW (zK sc) zM128 62 [(8, .inl r8), (7, .inr (.inr (.inl (some (10, e6))))), (0, .inr (.inr (.inl (some (3, 0))))), (1, .inr (.inr (.inl (some (1, s))))), (2, .inl x), (4, .inl w), (5, .inl z), (6, .inl v)] [] _ _ _
          refine ww_go 2 (pc' := 66) (L' := [(8, .inl r8), (7, .inr (.inr (.inl (some (10, e6))))), (0, .inr (.inr (.inl (some (3, 0))))), (1, .inr (.inr (.inl (some (1, s))))), (2, .inl x), (4, .inl w), (5, .inl z), (6, .inl v)]) (st' := [.inl r8, .inl w]) (m' := m0) (o := none) rfl trivial ?_
          refine ww_ic (t := 84) rfl rfl (by omega) (fun (h10 : r8 ≤ w) => ?_) (fun (h10 : ¬ (r8 ≤ w)) => ?_)
          · show wW (zK sc) zM128 84 [(8, .inl r8), (7, .inr (.inr (.inl (some (10, e6))))), (0, .inr (.inr (.inl (some (3, 0))))), (1, .inr (.inr (.inl (some (1, s))))), (2, .inl x), (4, .inl w), (5, .inl z), (6, .inl v)] [] _ _ _
            refine ww_go 6 (pc' := 18) (L' := [(6, .inl (v + (-1))), (4, .inl (w - r8)), (8, .inl r8), (7, .inr (.inr (.inl (some (10, e6))))), (0, .inr (.inr (.inl (some (3, 0))))), (1, .inr (.inr (.inl (some (1, s))))), (2, .inl x), (5, .inl z)]) (st' := []) (m' := m0) (o := none) rfl trivial ?_
            refine ww_sub (L := [(0, .inr (.inr (.inl (some (3, 0))))), (1, .inr (.inr (.inl (some (1, s))))), (2, .inl x), (4, .inl (w - r8)), (5, .inl z), (6, .inl (v + (-1)))]) ⟨rfl, rfl, rfl, rfl, rfl, rfl, trivial⟩ rfl rfl ?_
            exact (ih _ (by omega)).2 (w - r8) z (v + (-1)) rfl (by omega) (by omega)
          · show wW (zK sc) zM128 69 [(8, .inl r8), (7, .inr (.inr (.inl (some (10, e6))))), (0, .inr (.inr (.inl (some (3, 0))))), (1, .inr (.inr (.inl (some (1, s))))), (2, .inl x), (4, .inl w), (5, .inl z), (6, .inl v)] [] _ _ _
            have b11 : 1 ≤ m0.1 3 0 2 ∧ m0.1 3 0 2 ≤ 255 := hG.1 3 _ rfl _ _
            refine ww_go 6 (pc' := 80) (L' := [(8, .inl r8), (7, .inr (.inr (.inl (some (10, e6))))), (0, .inr (.inr (.inl (some (3, 0))))), (1, .inr (.inr (.inl (some (1, s))))), (2, .inl x), (4, .inl w), (5, .inl z), (6, .inl v)]) (st' := [.inl z, .inl (m0.1 3 0 2), .inl w, .inr (.inr (.inl (some (1, s)))), .inr (.inr (.inl (some (10, e6))))]) (m' := m0) (o := some ((0 < 1))) rfl (show (0 < 1) from by omega) ?_
            refine ww_call (vs := [.inr (.inr (.inl (some (10, e6)))), .inr (.inr (.inl (some (1, s)))), .inl w, .inl (m0.1 3 0 2), .inl z]) (r := []) (p := e6 < 6) rfl rfl rfl rfl (show e6 < 6 from by omega) (zs48 (c := c) (by omega) w (m0.1 3 0 2) z e6 s hG (by omega)) ?_
            rintro _ _ m14 ⟨rfl, rfl, hGm14, hEm14, hr13⟩
            have hFm14 : zfr (fun k i j => (k = 1 ∧ i = s ∧ j = 1) ∨ (k = 2 ∧ i = s)) m0 m14 := zfr_tr hF hEm14 (fun k i j z => Or.elim z (fun z => Or.inl z) (fun z => Or.inr (z)))
            show wW (zK sc) zM128 83 [(8, .inl r8), (7, .inr (.inr (.inl (some (10, e6))))), (0, .inr (.inr (.inl (some (3, 0))))), (1, .inr (.inr (.inl (some (1, s))))), (2, .inl x), (4, .inl w), (5, .inl z), (6, .inl v)] [] _ _ _
            have zt9 : e6 = (3 * z.toNat + ((m0.1 6 z.toNat 4 - v) % 3).toNat) := by omega
            obtain ⟨zsz, aG, bG, jG, hl9, hb9⟩ := hr13 (by omega)
            rw [zt9] at hl9 hb9
            have zx9 : zEP m0 e6 = zEP m0 (3 * z.toNat + ((m0.1 6 z.toNat 4 - v) % 3).toNat) := by rw [zt9]
            exact ww_rV rfl rfl ⟨rfl, rfl, zB_mono hGm14 (by omega), hFm14, fun _ => ⟨zsz, z, v, w, aG, bG, jG, ⟨by omega, by omega, by omega, by omega, by omega, by omega, by omega⟩, hl9, hb9⟩⟩
set_option maxRecDepth 8000 in
/-- Sender.fillFrom -/
theorem zs128 {sc : xSc} {n : Nat × Nat} {m0 : wm} {c : Int} (hc : 0 ≤ c ∧ c ≤ 1000000) (x : Int) (y : Int) (s : Nat) (hG : zB c m0) (h0 : 3 ≤ s ∧ s < 35 ∧ 0 ≤ x ∧ x ≤ 1 ∧ 0 ≤ y ∧ y ≤ 1000) : wX (zK sc) 128 [.inr (.inr (.inl (some (3, 0)))), .inr (.inr (.inl (some (1, s)))), .inl x, .inl y] n m0 (wr (fun vv n1 m1 => vv = none ∧ n = n1 ∧ zB c m1 ∧ zfr (fun k i j => (k = 1 ∧ i = s ∧ j = 1) ∨ (k = 2 ∧ i = s)) m0 m1 ∧ (y < zPO m0 x → m1.1 1 s 1 = 24 ∧ zFil m0 m1 s x y (m0.1 3 0 2)))) := by
  refine wX_of (N := zM128) rfl (Nat.le_of_ble_eq_true rfl) ?_
  show wW (zK sc) zM128 0 [(0, .inr (.inr (.inl (some (3, 0))))), (1, .inr (.inr (.inl (some (1, s))))), (2, .inl x), (3, .inl y)] [] n m0 _
  have hF : zfr (fun k i j => (k = 1 ∧ i = s ∧ j = 1) ∨ (k = 2 ∧ i = s)) m0 m0 := zfr_rf
  refine ww_go 4 (pc' := 6) (L' := [(5, .inl 0), (4, .inl y), (0, .inr (.inr (.inl (some (3, 0))))), (1, .inr (.inr (.inl (some (1, s))))), (2, .inl x), (3, .inl y)]) (st' := []) (m' := m0) (o := none) rfl trivial ?_
  refine ww_sub (L := [(0, .inr (.inr (.inl (some (3, 0))))), (1, .inr (.inr (.inl (some (1, s))))), (2, .inl x), (4, .inl y), (5, .inl 0)]) ⟨rfl, rfl, rfl, rfl, rfl, trivial⟩ rfl rfl ?_
  exact (zs128_l6 hc x y s hG h0 _).1 y 0 rfl (by omega) (by have z1 := zPH_e m0 x 0; omega)
set_option maxRecDepth 8000 in
/-- Sender.fillNext -/
theorem zs129 {sc : xSc} {n : Nat × Nat} {m0 : wm} {c : Int} (hc : 0 ≤ c ∧ c ≤ 1000000) (s : Nat) (hG : zB c m0) (h0 : 3 ≤ s ∧ s < 35) (hn : zNP m0) : wX (zK sc) 129 [.inr (.inr (.inl (some (3, 0)))), .inr (.inr (.inl (some (1, s))))] n m0 (wr (fun vv n1 m1 => ∃ r : Int, vv = some (.inl r) ∧ n = n1 ∧ zB c m1 ∧ zfr (fun k i j => (k = 1 ∧ i = s ∧ j = 1) ∨ (k = 2 ∧ i = s) ∨ (k = 3 ∧ j = 3) ∨ (k = 5)) m0 m1 ∧ ((r = 0 ∧ zPO m0 0 = 0 ∧ m0 = m1) ∨ (r = 1 ∧ (1 ≤ zPO m0 0 ∨ 1 ≤ zPO m0 1) ∧ m1.1 1 s 1 = 24 ∧ zNP m1 ∧ zNxt m0 m1 s)))) := by
  refine wX_of (N := zM129) rfl (Nat.le_of_ble_eq_true rfl) ?_
  show wW (zK sc) zM129 0 [(0, .inr (.inr (.inl (some (3, 0))))), (1, .inr (.inr (.inl (some (1, s)))))] [] n m0 _
  have hF : zfr (fun k i j => (k = 1 ∧ i = s ∧ j = 1) ∨ (k = 2 ∧ i = s) ∨ (k = 3 ∧ j = 3) ∨ (k = 5)) m0 m0 := zfr_rf
  obtain ⟨hn0, hn1⟩ := id hn
  have b0 : 0 ≤ m0.1 5 0 0 ∧ m0.1 5 0 0 ≤ 1000 := hG.1 5 _ rfl 0 0
  have b1 : 0 ≤ m0.1 5 0 1 ∧ m0.1 5 0 1 ≤ 1000 := hG.1 5 _ rfl 0 1
  have b1 : 0 ≤ m0.1 3 0 3 ∧ m0.1 3 0 3 ≤ 3 := hG.1 3 _ rfl _ _
  refine ww_go 3 (pc' := 5) (L' := [(0, .inr (.inr (.inl (some (3, 0))))), (1, .inr (.inr (.inl (some (1, s)))))]) (st' := [.inl 3, .inl (m0.1 3 0 3)]) (m' := m0) (o := some ((0 < 1))) rfl (show (0 < 1) from by omega) ?_
  refine ww_ic (t := 20) rfl rfl (by omega) (fun (h2 : m0.1 3 0 3 ≠ 3) => ?_) (fun (h2 : ¬ (m0.1 3 0 3 ≠ 3)) => ?_)
  · show wW (zK sc) zM129 20 [(0, .inr (.inr (.inl (some (3, 0))))), (1, .inr (.inr (.inl (some (1, s)))))] [] _ _ _
    refine ww_go 4 (pc' := 24) (L' := [(2, .inl 0), (0, .inr (.inr (.inl (some (3, 0))))), (1, .inr (.inr (.inl (some (1, s)))))]) (st' := [.inl 0, .inr (.inr (.inl (some (3, 0))))]) (m' := m0) (o := none) rfl trivial ?_
    refine ww_call (vs := [.inr (.inr (.inl (some (3, 0)))), .inl 0]) (r := []) (p := 0 < 1) rfl rfl rfl rfl (show 0 < 1 from by omega) (zs134 (c := c) (by omega) 0 hG (by omega)) ?_
    rintro _ _ _ ⟨r3, rfl, rfl, rfl, hr4⟩
    show wW (zK sc) zM129 27 [(2, .inl 0), (0, .inr (.inr (.inl (some (3, 0))))), (1, .inr (.inr (.inl (some (1, s)))))] [.inl r3] _ _ _
    refine ww_go 2 (pc' := 29) (L' := [(3, .inl r3), (2, .inl 0), (0, .inr (.inr (.inl (some (3, 0))))), (1, .inr (.inr (.inl (some (1, s)))))]) (st' := [.inl r3]) (m' := m0) (o := none) rfl trivial ?_
    refine ww_if (t := 34) rfl rfl (by omega) (fun (h5 : r3 ≠ 0) => ?_) (fun (h5 : ¬ (r3 ≠ 0)) => ?_)
    · show wW (zK sc) zM129 34 [(3, .inl r3), (2, .inl 0), (0, .inr (.inr (.inl (some (3, 0))))), (1, .inr (.inr (.inl (some (1, s)))))] [] _ _ _
      have b6 : 0 ≤ m0.1 5 0 0 ∧ m0.1 5 0 0 ≤ 1000 := hG.1 5 _ rfl _ _
      refine ww_go 7 (pc' := 43) (L' := [(3, .inl r3), (2, .inl 0), (0, .inr (.inr (.inl (some (3, 0))))), (1, .inr (.inr (.inl (some (1, s)))))]) (st' := [.inl (m0.1 5 0 0), .inl 0, .inr (.inr (.inl (some (1, s)))), .inr (.inr (.inl (some (3, 0))))]) (m' := m0) (o := some ((0 < 1) ∧ (0 < 1 ∧ 0 ≤ (0 : Int) ∧ (0 : Int) < ((2 : Nat) : Int)))) rfl (show (0 < 1) ∧ (0 < 1 ∧ 0 ≤ (0 : Int) ∧ (0 : Int) < ((2 : Nat) : Int)) from by omega) ?_
      refine ww_call (vs := [.inr (.inr (.inl (some (3, 0)))), .inr (.inr (.inl (some (1, s)))), .inl 0, .inl (m0.1 5 0 0)]) (r := []) (p := 0 < 1) rfl rfl rfl rfl (show 0 < 1 from by omega) (zs128 (c := c) (by omega) 0 (m0.1 5 0 0) s hG (by omega)) ?_
      rintro _ _ m9 ⟨rfl, rfl, hGm9, hEm9, hr8⟩
      have hFm9 : zfr (fun k i j => (k = 1 ∧ i = s ∧ j = 1) ∨ (k = 2 ∧ i = s) ∨ (k = 3 ∧ j = 3) ∨ (k = 5)) m0 m9 := zfr_tr hF hEm9 (fun k i j z => Or.elim z (fun z => Or.inl z) (fun z => Or.inr (Or.inl z)))
      have w10 : m9.1 5 0 0 = m0.1 5 0 0 := (hEm9 5 0 0 (show ¬ ((5 = 1 ∧ 0 = s ∧ 0 = 1) ∨ (5 = 2 ∧ 0 = s)) from by omega)).1
      have w11 : m9.1 5 0 1 = m0.1 5 0 1 := (hEm9 5 0 1 (show ¬ ((5 = 1 ∧ 0 = s ∧ 1 = 1) ∨ (5 = 2 ∧ 0 = s)) from by omega)).1
      have w12 : m9.1 3 0 3 = m0.1 3 0 3 := (hEm9 3 0 3 (show ¬ ((3 = 1 ∧ 0 = s ∧ 3 = 1) ∨ (3 = 2 ∧ 0 = s)) from by omega)).1
      show wW (zK sc) zM129 46 [(3, .inl r3), (2, .inl 0), (0, .inr (.inr (.inl (some (3, 0))))), (1, .inr (.inr (.inl (some (1, s)))))] [] _ _ _
      have b13 : 0 ≤ m9.1 5 0 0 ∧ m9.1 5 0 0 ≤ 1000 := hGm9.1 5 _ rfl _ _
      have t15 : 0 ≤ ((m9.1 5 0 0) + 1) ∧ 0 < r3 → 0 ≤ ((m9.1 5 0 0) + 1).tmod r3 ∧ ((m9.1 5 0 0) + 1).tmod r3 < r3 := wtmod_rg
      refine ww_go 12 (pc' := 62) (L' := [(3, .inl r3), (2, .inl 0), (0, .inr (.inr (.inl (some (3, 0))))), (1, .inr (.inr (.inl (some (1, s)))))]) (st' := []) (m' := wuI m9 5 0 0 (((m9.1 5 0 0) + 1).tmod r3)) (o := some ((0 < 1) ∧ (0 < 1) ∧ (0 < 1 ∧ 0 ≤ (0 : Int) ∧ (0 : Int) < ((2 : Nat) : Int)) ∧ (-2147483648 ≤ (m9.1 5 0 0) + 1 ∧ (m9.1 5 0 0) + 1 ≤ 2147483647 ∧ 0 < r3 ∧ r3 ≤ 2147483647) ∧ (0 < 1 ∧ 0 ≤ (0 : Int) ∧ (0 : Int) < ((2 : Nat) : Int)))) rfl (show (0 < 1) ∧ (0 < 1) ∧ (0 < 1 ∧ 0 ≤ (0 : Int) ∧ (0 : Int) < ((2 : Nat) : Int)) ∧ (-2147483648 ≤ (m9.1 5 0 0) + 1 ∧ (m9.1 5 0 0) + 1 ≤ 2147483647 ∧ 0 < r3 ∧ r3 ≤ 2147483647) ∧ (0 < 1 ∧ 0 ≤ (0 : Int) ∧ (0 : Int) < ((2 : Nat) : Int)) from by omega) ?_
      obtain ⟨m16, hm16⟩ : ∃ zq9 : wm, zq9 = wuI m9 5 0 0 (((m9.1 5 0 0) + 1).tmod r3) := ⟨_, rfl⟩
      rw [← hm16]
      have hGm16 : zB c m16 := by rw [hm16]; exact zB_wI rfl (show 0 ≤ ((m9.1 5 0 0) + 1).tmod r3 ∧ ((m9.1 5 0 0) + 1).tmod r3 ≤ 1000 from by omega) hGm9
      have hFm16 : zfr (fun k i j => (k = 1 ∧ i = s ∧ j = 1) ∨ (k = 2 ∧ i = s) ∨ (k = 3 ∧ j = 3) ∨ (k = 5)) m0 m16 := by rw [hm16]; exact zfr_wI hFm9 (show (5 = 1 ∧ 0 = s ∧ 0 = 1) ∨ (5 = 2 ∧ 0 = s) ∨ (5 = 3 ∧ 0 = 3) ∨ (5 = 5) from Or.inr (Or.inr (Or.inr (rfl))))
      have s17 : m16.1 5 0 0 = ((m9.1 5 0 0) + 1).tmod r3 := by rw [hm16]; exact wuI_self
      have w18 : m16.1 5 0 1 = m9.1 5 0 1 := by rw [hm16]; exact wuI_nj (by omega)
      have w19 : m16.1 3 0 3 = m9.1 3 0 3 := by rw [hm16]; rfl
      have w20 : m16.1 1 s 1 = m9.1 1 s 1 := by rw [hm16]; rfl
      have b21 : 0 ≤ m16.1 3 0 3 ∧ m16.1 3 0 3 ≤ 3 := hGm16.1 3 _ rfl _ _
      have t22 : (0 ≤ ((m16.1 3 0 3) + 1) → ((m16.1 3 0 3) + 1).tmod 4 = ((m16.1 3 0 3) + 1) % 4) ∧ (((m16.1 3 0 3) + 1) < 0 → ((m16.1 3 0 3) + 1).tmod 4 = -((-(((m16.1 3 0 3) + 1))) % 4)) := ⟨fun z => Int.tmod_eq_emod_of_nonneg z, fun z => wtmod_neg z⟩
      refine ww_go 8 (pc' := 74) (L' := [(3, .inl r3), (2, .inl 0), (0, .inr (.inr (.inl (some (3, 0))))), (1, .inr (.inr (.inl (some (1, s)))))]) (st' := []) (m' := wuI m16 3 0 3 (((m16.1 3 0 3) + 1).tmod 4)) (o := some ((0 < 1) ∧ (-2147483648 ≤ (m16.1 3 0 3) + 1 ∧ (m16.1 3 0 3) + 1 ≤ 2147483647 ∧ 0 < (4 : Int) ∧ (4 : Int) ≤ 2147483647) ∧ (0 < 1))) rfl (show (0 < 1) ∧ (-2147483648 ≤ (m16.1 3 0 3) + 1 ∧ (m16.1 3 0 3) + 1 ≤ 2147483647 ∧ 0 < (4 : Int) ∧ (4 : Int) ≤ 2147483647) ∧ (0 < 1) from by omega) ?_
      obtain ⟨m23, hm23⟩ : ∃ zq9 : wm, zq9 = wuI m16 3 0 3 (((m16.1 3 0 3) + 1).tmod 4) := ⟨_, rfl⟩
      rw [← hm23]
      have hGm23 : zB c m23 := by rw [hm23]; exact zB_wI rfl (show 0 ≤ ((m16.1 3 0 3) + 1).tmod 4 ∧ ((m16.1 3 0 3) + 1).tmod 4 ≤ 3 from by omega) hGm16
      have hFm23 : zfr (fun k i j => (k = 1 ∧ i = s ∧ j = 1) ∨ (k = 2 ∧ i = s) ∨ (k = 3 ∧ j = 3) ∨ (k = 5)) m0 m23 := by rw [hm23]; exact zfr_wI hFm16 (show (3 = 1 ∧ 0 = s ∧ 3 = 1) ∨ (3 = 2 ∧ 0 = s) ∨ (3 = 3 ∧ 3 = 3) ∨ (3 = 5) from Or.inr (Or.inr (Or.inl (⟨rfl, rfl⟩))))
      have s24 : m23.1 3 0 3 = ((m16.1 3 0 3) + 1).tmod 4 := by rw [hm23]; exact wuI_self
      have w25 : m23.1 5 0 0 = m16.1 5 0 0 := by rw [hm23]; rfl
      have w26 : m23.1 5 0 1 = m16.1 5 0 1 := by rw [hm23]; rfl
      have w27 : m23.1 1 s 1 = m16.1 1 s 1 := by rw [hm23]; rfl
      refine ww_go 1 (pc' := 75) (L' := [(3, .inl r3), (2, .inl 0), (0, .inr (.inr (.inl (some (3, 0))))), (1, .inr (.inr (.inl (some (1, s)))))]) (st' := [.inl 1]) (m' := m23) (o := none) rfl trivial ?_
      have pe0 := zPO_fr hG hFm23 (fun f => (show ¬ ((6 = 1 ∧ f = s ∧ 4 = 1) ∨ (6 = 2 ∧ f = s) ∨ (6 = 3 ∧ 4 = 3) ∨ (6 = 5)) from by omega)) (fun t => (show ¬ ((10 = 1 ∧ t = s ∧ 2 = 1) ∨ (10 = 2 ∧ t = s) ∨ (10 = 3 ∧ 2 = 3) ∨ (10 = 5)) from by omega)) (fun i h1 h2 => (show ¬ ((1 = 1 ∧ i = s ∧ 1 = 1) ∨ (1 = 2 ∧ i = s) ∨ (1 = 3 ∧ 1 = 3) ∨ (1 = 5)) from by omega)) 0
      have pe1 := zPO_fr hG hFm23 (fun f => (show ¬ ((6 = 1 ∧ f = s ∧ 4 = 1) ∨ (6 = 2 ∧ f = s) ∨ (6 = 3 ∧ 4 = 3) ∨ (6 = 5)) from by omega)) (fun t => (show ¬ ((10 = 1 ∧ t = s ∧ 2 = 1) ∨ (10 = 2 ∧ t = s) ∨ (10 = 3 ∧ 2 = 3) ∨ (10 = 5)) from by omega)) (fun i h1 h2 => (show ¬ ((1 = 1 ∧ i = s ∧ 1 = 1) ∨ (1 = 2 ∧ i = s) ∨ (1 = 3 ∧ 1 = 3) ∨ (1 = 5)) from by omega)) 1
      have zf9 := hr8 (by omega)
      have zf8 : zFil m0 m23 s (0 : Int) (m0.1 5 0 (0 : Int).toNat) (m0.1 3 0 2) := by rw [hm23, hm16]; exact zf9.2
      have zm8 : (m9.1 5 0 0 + 1).tmod r3 = (m0.1 5 0 0 + 1) % (zPO m0 0) := by rw [show m9.1 5 0 0 = m0.1 5 0 0 from by omega, show r3 = zPO m0 0 from by omega]; exact Int.tmod_eq_emod_of_nonneg (by omega)
      exact ww_rB rfl rfl (by omega) ⟨_, rfl, rfl, zB_mono hGm23 (by omega), hFm23, Or.inr ⟨rfl, by omega, by omega, (show _ ∧ _ from ⟨by rw [pe0]; omega, by rw [pe1]; omega⟩ : zNP _), (0 : Int), by omega, by omega, zf8, (by show m23.1 5 0 0 = (m0.1 5 0 0 + 1) % (zPO m0 0); omega), (by show m23.1 5 0 1 = m0.1 5 0 1; omega), by omega⟩⟩
    · show wW (zK sc) zM129 32 [(3, .inl r3), (2, .inl 0), (0, .inr (.inr (.inl (some (3, 0))))), (1, .inr (.inr (.inl (some (1, s)))))] [] _ _ _
      refine ww_go 1 (pc' := 33) (L' := [(3, .inl r3), (2, .inl 0), (0, .inr (.inr (.inl (some (3, 0))))), (1, .inr (.inr (.inl (some (1, s)))))]) (st' := [.inl 0]) (m' := m0) (o := none) rfl trivial ?_
      exact ww_rB rfl rfl (by omega) ⟨_, rfl, rfl, zB_mono hG (by omega), hF, Or.inl ⟨rfl, by omega, rfl⟩⟩
  · show wW (zK sc) zM129 8 [(0, .inr (.inr (.inl (some (3, 0))))), (1, .inr (.inr (.inl (some (1, s)))))] [] _ _ _
    refine ww_go 2 (pc' := 10) (L' := [(0, .inr (.inr (.inl (some (3, 0))))), (1, .inr (.inr (.inl (some (1, s)))))]) (st' := [.inl 1, .inr (.inr (.inl (some (3, 0))))]) (m' := m0) (o := none) rfl trivial ?_
    refine ww_call (vs := [.inr (.inr (.inl (some (3, 0)))), .inl 1]) (r := []) (p := 0 < 1) rfl rfl rfl rfl (show 0 < 1 from by omega) (zs134 (c := c) (by omega) 1 hG (by omega)) ?_
    rintro _ _ _ ⟨r28, rfl, rfl, rfl, hr29⟩
    show wW (zK sc) zM129 13 [(0, .inr (.inr (.inl (some (3, 0))))), (1, .inr (.inr (.inl (some (1, s)))))] [.inl r28] _ _ _
    refine ww_if (t := 20) rfl rfl (by omega) (fun (h30 : r28 ≤ 0) => ?_) (fun (h30 : ¬ (r28 ≤ 0)) => ?_)
    · show wW (zK sc) zM129 20 [(0, .inr (.inr (.inl (some (3, 0))))), (1, .inr (.inr (.inl (some (1, s)))))] [] _ _ _
      refine ww_go 4 (pc' := 24) (L' := [(2, .inl 0), (0, .inr (.inr (.inl (some (3, 0))))), (1, .inr (.inr (.inl (some (1, s)))))]) (st' := [.inl 0, .inr (.inr (.inl (some (3, 0))))]) (m' := m0) (o := none) rfl trivial ?_
      refine ww_call (vs := [.inr (.inr (.inl (some (3, 0)))), .inl 0]) (r := []) (p := 0 < 1) rfl rfl rfl rfl (show 0 < 1 from by omega) (zs134 (c := c) (by omega) 0 hG (by omega)) ?_
      rintro _ _ _ ⟨r31, rfl, rfl, rfl, hr32⟩
      show wW (zK sc) zM129 27 [(2, .inl 0), (0, .inr (.inr (.inl (some (3, 0))))), (1, .inr (.inr (.inl (some (1, s)))))] [.inl r31] _ _ _
      refine ww_go 2 (pc' := 29) (L' := [(3, .inl r31), (2, .inl 0), (0, .inr (.inr (.inl (some (3, 0))))), (1, .inr (.inr (.inl (some (1, s)))))]) (st' := [.inl r31]) (m' := m0) (o := none) rfl trivial ?_
      refine ww_if (t := 34) rfl rfl (by omega) (fun (h33 : r31 ≠ 0) => ?_) (fun (h33 : ¬ (r31 ≠ 0)) => ?_)
      · show wW (zK sc) zM129 34 [(3, .inl r31), (2, .inl 0), (0, .inr (.inr (.inl (some (3, 0))))), (1, .inr (.inr (.inl (some (1, s)))))] [] _ _ _
        have b34 : 0 ≤ m0.1 5 0 0 ∧ m0.1 5 0 0 ≤ 1000 := hG.1 5 _ rfl _ _
        refine ww_go 7 (pc' := 43) (L' := [(3, .inl r31), (2, .inl 0), (0, .inr (.inr (.inl (some (3, 0))))), (1, .inr (.inr (.inl (some (1, s)))))]) (st' := [.inl (m0.1 5 0 0), .inl 0, .inr (.inr (.inl (some (1, s)))), .inr (.inr (.inl (some (3, 0))))]) (m' := m0) (o := some ((0 < 1) ∧ (0 < 1 ∧ 0 ≤ (0 : Int) ∧ (0 : Int) < ((2 : Nat) : Int)))) rfl (show (0 < 1) ∧ (0 < 1 ∧ 0 ≤ (0 : Int) ∧ (0 : Int) < ((2 : Nat) : Int)) from by omega) ?_
        refine ww_call (vs := [.inr (.inr (.inl (some (3, 0)))), .inr (.inr (.inl (some (1, s)))), .inl 0, .inl (m0.1 5 0 0)]) (r := []) (p := 0 < 1) rfl rfl rfl rfl (show 0 < 1 from by omega) (zs128 (c := c) (by omega) 0 (m0.1 5 0 0) s hG (by omega)) ?_
        rintro _ _ m37 ⟨rfl, rfl, hGm37, hEm37, hr36⟩
        have hFm37 : zfr (fun k i j => (k = 1 ∧ i = s ∧ j = 1) ∨ (k = 2 ∧ i = s) ∨ (k = 3 ∧ j = 3) ∨ (k = 5)) m0 m37 := zfr_tr hF hEm37 (fun k i j z => Or.elim z (fun z => Or.inl z) (fun z => Or.inr (Or.inl z)))
        have w38 : m37.1 5 0 0 = m0.1 5 0 0 := (hEm37 5 0 0 (show ¬ ((5 = 1 ∧ 0 = s ∧ 0 = 1) ∨ (5 = 2 ∧ 0 = s)) from by omega)).1
        have w39 : m37.1 5 0 1 = m0.1 5 0 1 := (hEm37 5 0 1 (show ¬ ((5 = 1 ∧ 0 = s ∧ 1 = 1) ∨ (5 = 2 ∧ 0 = s)) from by omega)).1
        have w40 : m37.1 3 0 3 = m0.1 3 0 3 := (hEm37 3 0 3 (show ¬ ((3 = 1 ∧ 0 = s ∧ 3 = 1) ∨ (3 = 2 ∧ 0 = s)) from by omega)).1
        show wW (zK sc) zM129 46 [(3, .inl r31), (2, .inl 0), (0, .inr (.inr (.inl (some (3, 0))))), (1, .inr (.inr (.inl (some (1, s)))))] [] _ _ _
        have b41 : 0 ≤ m37.1 5 0 0 ∧ m37.1 5 0 0 ≤ 1000 := hGm37.1 5 _ rfl _ _
        have t43 : 0 ≤ ((m37.1 5 0 0) + 1) ∧ 0 < r31 → 0 ≤ ((m37.1 5 0 0) + 1).tmod r31 ∧ ((m37.1 5 0 0) + 1).tmod r31 < r31 := wtmod_rg
        refine ww_go 12 (pc' := 62) (L' := [(3, .inl r31), (2, .inl 0), (0, .inr (.inr (.inl (some (3, 0))))), (1, .inr (.inr (.inl (some (1, s)))))]) (st' := []) (m' := wuI m37 5 0 0 (((m37.1 5 0 0) + 1).tmod r31)) (o := some ((0 < 1) ∧ (0 < 1) ∧ (0 < 1 ∧ 0 ≤ (0 : Int) ∧ (0 : Int) < ((2 : Nat) : Int)) ∧ (-2147483648 ≤ (m37.1 5 0 0) + 1 ∧ (m37.1 5 0 0) + 1 ≤ 2147483647 ∧ 0 < r31 ∧ r31 ≤ 2147483647) ∧ (0 < 1 ∧ 0 ≤ (0 : Int) ∧ (0 : Int) < ((2 : Nat) : Int)))) rfl (show (0 < 1) ∧ (0 < 1) ∧ (0 < 1 ∧ 0 ≤ (0 : Int) ∧ (0 : Int) < ((2 : Nat) : Int)) ∧ (-2147483648 ≤ (m37.1 5 0 0) + 1 ∧ (m37.1 5 0 0) + 1 ≤ 2147483647 ∧ 0 < r31 ∧ r31 ≤ 2147483647) ∧ (0 < 1 ∧ 0 ≤ (0 : Int) ∧ (0 : Int) < ((2 : Nat) : Int)) from by omega) ?_
        obtain ⟨m44, hm44⟩ : ∃ zq9 : wm, zq9 = wuI m37 5 0 0 (((m37.1 5 0 0) + 1).tmod r31) := ⟨_, rfl⟩
        rw [← hm44]
        have hGm44 : zB c m44 := by rw [hm44]; exact zB_wI rfl (show 0 ≤ ((m37.1 5 0 0) + 1).tmod r31 ∧ ((m37.1 5 0 0) + 1).tmod r31 ≤ 1000 from by omega) hGm37
        have hFm44 : zfr (fun k i j => (k = 1 ∧ i = s ∧ j = 1) ∨ (k = 2 ∧ i = s) ∨ (k = 3 ∧ j = 3) ∨ (k = 5)) m0 m44 := by rw [hm44]; exact zfr_wI hFm37 (show (5 = 1 ∧ 0 = s ∧ 0 = 1) ∨ (5 = 2 ∧ 0 = s) ∨ (5 = 3 ∧ 0 = 3) ∨ (5 = 5) from Or.inr (Or.inr (Or.inr (rfl))))
        have s45 : m44.1 5 0 0 = ((m37.1 5 0 0) + 1).tmod r31 := by rw [hm44]; exact wuI_self
        have w46 : m44.1 5 0 1 = m37.1 5 0 1 := by rw [hm44]; exact wuI_nj (by omega)
        have w47 : m44.1 3 0 3 = m37.1 3 0 3 := by rw [hm44]; rfl
        have w48 : m44.1 1 s 1 = m37.1 1 s 1 := by rw [hm44]; rfl
        have b49 : 0 ≤ m44.1 3 0 3 ∧ m44.1 3 0 3 ≤ 3 := hGm44.1 3 _ rfl _ _
        have t50 : (0 ≤ ((m44.1 3 0 3) + 1) → ((m44.1 3 0 3) + 1).tmod 4 = ((m44.1 3 0 3) + 1) % 4) ∧ (((m44.1 3 0 3) + 1) < 0 → ((m44.1 3 0 3) + 1).tmod 4 = -((-(((m44.1 3 0 3) + 1))) % 4)) := ⟨fun z => Int.tmod_eq_emod_of_nonneg z, fun z => wtmod_neg z⟩
        refine ww_go 8 (pc' := 74) (L' := [(3, .inl r31), (2, .inl 0), (0, .inr (.inr (.inl (some (3, 0))))), (1, .inr (.inr (.inl (some (1, s)))))]) (st' := []) (m' := wuI m44 3 0 3 (((m44.1 3 0 3) + 1).tmod 4)) (o := some ((0 < 1) ∧ (-2147483648 ≤ (m44.1 3 0 3) + 1 ∧ (m44.1 3 0 3) + 1 ≤ 2147483647 ∧ 0 < (4 : Int) ∧ (4 : Int) ≤ 2147483647) ∧ (0 < 1))) rfl (show (0 < 1) ∧ (-2147483648 ≤ (m44.1 3 0 3) + 1 ∧ (m44.1 3 0 3) + 1 ≤ 2147483647 ∧ 0 < (4 : Int) ∧ (4 : Int) ≤ 2147483647) ∧ (0 < 1) from by omega) ?_
        obtain ⟨m51, hm51⟩ : ∃ zq9 : wm, zq9 = wuI m44 3 0 3 (((m44.1 3 0 3) + 1).tmod 4) := ⟨_, rfl⟩
        rw [← hm51]
        have hGm51 : zB c m51 := by rw [hm51]; exact zB_wI rfl (show 0 ≤ ((m44.1 3 0 3) + 1).tmod 4 ∧ ((m44.1 3 0 3) + 1).tmod 4 ≤ 3 from by omega) hGm44
        have hFm51 : zfr (fun k i j => (k = 1 ∧ i = s ∧ j = 1) ∨ (k = 2 ∧ i = s) ∨ (k = 3 ∧ j = 3) ∨ (k = 5)) m0 m51 := by rw [hm51]; exact zfr_wI hFm44 (show (3 = 1 ∧ 0 = s ∧ 3 = 1) ∨ (3 = 2 ∧ 0 = s) ∨ (3 = 3 ∧ 3 = 3) ∨ (3 = 5) from Or.inr (Or.inr (Or.inl (⟨rfl, rfl⟩))))
        have s52 : m51.1 3 0 3 = ((m44.1 3 0 3) + 1).tmod 4 := by rw [hm51]; exact wuI_self
        have w53 : m51.1 5 0 0 = m44.1 5 0 0 := by rw [hm51]; rfl
        have w54 : m51.1 5 0 1 = m44.1 5 0 1 := by rw [hm51]; rfl
        have w55 : m51.1 1 s 1 = m44.1 1 s 1 := by rw [hm51]; rfl
        refine ww_go 1 (pc' := 75) (L' := [(3, .inl r31), (2, .inl 0), (0, .inr (.inr (.inl (some (3, 0))))), (1, .inr (.inr (.inl (some (1, s)))))]) (st' := [.inl 1]) (m' := m51) (o := none) rfl trivial ?_
        have pe0 := zPO_fr hG hFm51 (fun f => (show ¬ ((6 = 1 ∧ f = s ∧ 4 = 1) ∨ (6 = 2 ∧ f = s) ∨ (6 = 3 ∧ 4 = 3) ∨ (6 = 5)) from by omega)) (fun t => (show ¬ ((10 = 1 ∧ t = s ∧ 2 = 1) ∨ (10 = 2 ∧ t = s) ∨ (10 = 3 ∧ 2 = 3) ∨ (10 = 5)) from by omega)) (fun i h1 h2 => (show ¬ ((1 = 1 ∧ i = s ∧ 1 = 1) ∨ (1 = 2 ∧ i = s) ∨ (1 = 3 ∧ 1 = 3) ∨ (1 = 5)) from by omega)) 0
        have pe1 := zPO_fr hG hFm51 (fun f => (show ¬ ((6 = 1 ∧ f = s ∧ 4 = 1) ∨ (6 = 2 ∧ f = s) ∨ (6 = 3 ∧ 4 = 3) ∨ (6 = 5)) from by omega)) (fun t => (show ¬ ((10 = 1 ∧ t = s ∧ 2 = 1) ∨ (10 = 2 ∧ t = s) ∨ (10 = 3 ∧ 2 = 3) ∨ (10 = 5)) from by omega)) (fun i h1 h2 => (show ¬ ((1 = 1 ∧ i = s ∧ 1 = 1) ∨ (1 = 2 ∧ i = s) ∨ (1 = 3 ∧ 1 = 3) ∨ (1 = 5)) from by omega)) 1
        have zf9 := hr36 (by omega)
        have zf8 : zFil m0 m51 s (0 : Int) (m0.1 5 0 (0 : Int).toNat) (m0.1 3 0 2) := by rw [hm51, hm44]; exact zf9.2
        have zm8 : (m37.1 5 0 0 + 1).tmod r31 = (m0.1 5 0 0 + 1) % (zPO m0 0) := by rw [show m37.1 5 0 0 = m0.1 5 0 0 from by omega, show r31 = zPO m0 0 from by omega]; exact Int.tmod_eq_emod_of_nonneg (by omega)
        exact ww_rB rfl rfl (by omega) ⟨_, rfl, rfl, zB_mono hGm51 (by omega), hFm51, Or.inr ⟨rfl, by omega, by omega, (show _ ∧ _ from ⟨by rw [pe0]; omega, by rw [pe1]; omega⟩ : zNP _), (0 : Int), by omega, by omega, zf8, (by show m51.1 5 0 0 = (m0.1 5 0 0 + 1) % (zPO m0 0); omega), (by show m51.1 5 0 1 = m0.1 5 0 1; omega), by omega⟩⟩
      · show wW (zK sc) zM129 32 [(3, .inl r31), (2, .inl 0), (0, .inr (.inr (.inl (some (3, 0))))), (1, .inr (.inr (.inl (some (1, s)))))] [] _ _ _
        refine ww_go 1 (pc' := 33) (L' := [(3, .inl r31), (2, .inl 0), (0, .inr (.inr (.inl (some (3, 0))))), (1, .inr (.inr (.inl (some (1, s)))))]) (st' := [.inl 0]) (m' := m0) (o := none) rfl trivial ?_
        exact ww_rB rfl rfl (by omega) ⟨_, rfl, rfl, zB_mono hG (by omega), hF, Or.inl ⟨rfl, by omega, rfl⟩⟩
    · show wW (zK sc) zM129 16 [(0, .inr (.inr (.inl (some (3, 0))))), (1, .inr (.inr (.inl (some (1, s)))))] [] _ _ _
      refine ww_go 5 (pc' := 24) (L' := [(2, .inl 1), (0, .inr (.inr (.inl (some (3, 0))))), (1, .inr (.inr (.inl (some (1, s)))))]) (st' := [.inl 1, .inr (.inr (.inl (some (3, 0))))]) (m' := m0) (o := none) rfl trivial ?_
      refine ww_call (vs := [.inr (.inr (.inl (some (3, 0)))), .inl 1]) (r := []) (p := 0 < 1) rfl rfl rfl rfl (show 0 < 1 from by omega) (zs134 (c := c) (by omega) 1 hG (by omega)) ?_
      rintro _ _ _ ⟨r56, rfl, rfl, rfl, hr57⟩
      show wW (zK sc) zM129 27 [(2, .inl 1), (0, .inr (.inr (.inl (some (3, 0))))), (1, .inr (.inr (.inl (some (1, s)))))] [.inl r56] _ _ _
      refine ww_go 2 (pc' := 29) (L' := [(3, .inl r56), (2, .inl 1), (0, .inr (.inr (.inl (some (3, 0))))), (1, .inr (.inr (.inl (some (1, s)))))]) (st' := [.inl r56]) (m' := m0) (o := none) rfl trivial ?_
      refine ww_if (t := 34) rfl rfl (by omega) (fun (h58 : r56 ≠ 0) => ?_) (fun (h58 : ¬ (r56 ≠ 0)) => ?_)
      · show wW (zK sc) zM129 34 [(3, .inl r56), (2, .inl 1), (0, .inr (.inr (.inl (some (3, 0))))), (1, .inr (.inr (.inl (some (1, s)))))] [] _ _ _
        have b59 : 0 ≤ m0.1 5 0 1 ∧ m0.1 5 0 1 ≤ 1000 := hG.1 5 _ rfl _ _
        refine ww_go 7 (pc' := 43) (L' := [(3, .inl r56), (2, .inl 1), (0, .inr (.inr (.inl (some (3, 0))))), (1, .inr (.inr (.inl (some (1, s)))))]) (st' := [.inl (m0.1 5 0 1), .inl 1, .inr (.inr (.inl (some (1, s)))), .inr (.inr (.inl (some (3, 0))))]) (m' := m0) (o := some ((0 < 1) ∧ (0 < 1 ∧ 0 ≤ (1 : Int) ∧ (1 : Int) < ((2 : Nat) : Int)))) rfl (show (0 < 1) ∧ (0 < 1 ∧ 0 ≤ (1 : Int) ∧ (1 : Int) < ((2 : Nat) : Int)) from by omega) ?_
        refine ww_call (vs := [.inr (.inr (.inl (some (3, 0)))), .inr (.inr (.inl (some (1, s)))), .inl 1, .inl (m0.1 5 0 1)]) (r := []) (p := 0 < 1) rfl rfl rfl rfl (show 0 < 1 from by omega) (zs128 (c := c) (by omega) 1 (m0.1 5 0 1) s hG (by omega)) ?_
        rintro _ _ m62 ⟨rfl, rfl, hGm62, hEm62, hr61⟩
        have hFm62 : zfr (fun k i j => (k = 1 ∧ i = s ∧ j = 1) ∨ (k = 2 ∧ i = s) ∨ (k = 3 ∧ j = 3) ∨ (k = 5)) m0 m62 := zfr_tr hF hEm62 (fun k i j z => Or.elim z (fun z => Or.inl z) (fun z => Or.inr (Or.inl z)))
        have w63 : m62.1 5 0 0 = m0.1 5 0 0 := (hEm62 5 0 0 (show ¬ ((5 = 1 ∧ 0 = s ∧ 0 = 1) ∨ (5 = 2 ∧ 0 = s)) from by omega)).1
        have w64 : m62.1 5 0 1 = m0.1 5 0 1 := (hEm62 5 0 1 (show ¬ ((5 = 1 ∧ 0 = s ∧ 1 = 1) ∨ (5 = 2 ∧ 0 = s)) from by omega)).1
        have w65 : m62.1 3 0 3 = m0.1 3 0 3 := (hEm62 3 0 3 (show ¬ ((3 = 1 ∧ 0 = s ∧ 3 = 1) ∨ (3 = 2 ∧ 0 = s)) from by omega)).1
        show wW (zK sc) zM129 46 [(3, .inl r56), (2, .inl 1), (0, .inr (.inr (.inl (some (3, 0))))), (1, .inr (.inr (.inl (some (1, s)))))] [] _ _ _
        have b66 : 0 ≤ m62.1 5 0 1 ∧ m62.1 5 0 1 ≤ 1000 := hGm62.1 5 _ rfl _ _
        have t68 : 0 ≤ ((m62.1 5 0 1) + 1) ∧ 0 < r56 → 0 ≤ ((m62.1 5 0 1) + 1).tmod r56 ∧ ((m62.1 5 0 1) + 1).tmod r56 < r56 := wtmod_rg
        refine ww_go 12 (pc' := 62) (L' := [(3, .inl r56), (2, .inl 1), (0, .inr (.inr (.inl (some (3, 0))))), (1, .inr (.inr (.inl (some (1, s)))))]) (st' := []) (m' := wuI m62 5 0 1 (((m62.1 5 0 1) + 1).tmod r56)) (o := some ((0 < 1) ∧ (0 < 1) ∧ (0 < 1 ∧ 0 ≤ (1 : Int) ∧ (1 : Int) < ((2 : Nat) : Int)) ∧ (-2147483648 ≤ (m62.1 5 0 1) + 1 ∧ (m62.1 5 0 1) + 1 ≤ 2147483647 ∧ 0 < r56 ∧ r56 ≤ 2147483647) ∧ (0 < 1 ∧ 0 ≤ (1 : Int) ∧ (1 : Int) < ((2 : Nat) : Int)))) rfl (show (0 < 1) ∧ (0 < 1) ∧ (0 < 1 ∧ 0 ≤ (1 : Int) ∧ (1 : Int) < ((2 : Nat) : Int)) ∧ (-2147483648 ≤ (m62.1 5 0 1) + 1 ∧ (m62.1 5 0 1) + 1 ≤ 2147483647 ∧ 0 < r56 ∧ r56 ≤ 2147483647) ∧ (0 < 1 ∧ 0 ≤ (1 : Int) ∧ (1 : Int) < ((2 : Nat) : Int)) from by omega) ?_
        obtain ⟨m69, hm69⟩ : ∃ zq9 : wm, zq9 = wuI m62 5 0 1 (((m62.1 5 0 1) + 1).tmod r56) := ⟨_, rfl⟩
        rw [← hm69]
        have hGm69 : zB c m69 := by rw [hm69]; exact zB_wI rfl (show 0 ≤ ((m62.1 5 0 1) + 1).tmod r56 ∧ ((m62.1 5 0 1) + 1).tmod r56 ≤ 1000 from by omega) hGm62
        have hFm69 : zfr (fun k i j => (k = 1 ∧ i = s ∧ j = 1) ∨ (k = 2 ∧ i = s) ∨ (k = 3 ∧ j = 3) ∨ (k = 5)) m0 m69 := by rw [hm69]; exact zfr_wI hFm62 (show (5 = 1 ∧ 0 = s ∧ 1 = 1) ∨ (5 = 2 ∧ 0 = s) ∨ (5 = 3 ∧ 1 = 3) ∨ (5 = 5) from Or.inr (Or.inr (Or.inr (rfl))))
        have s70 : m69.1 5 0 1 = ((m62.1 5 0 1) + 1).tmod r56 := by rw [hm69]; exact wuI_self
        have w71 : m69.1 5 0 0 = m62.1 5 0 0 := by rw [hm69]; exact wuI_nj (by omega)
        have w72 : m69.1 3 0 3 = m62.1 3 0 3 := by rw [hm69]; rfl
        have w73 : m69.1 1 s 1 = m62.1 1 s 1 := by rw [hm69]; rfl
        have b74 : 0 ≤ m69.1 3 0 3 ∧ m69.1 3 0 3 ≤ 3 := hGm69.1 3 _ rfl _ _
        have t75 : (0 ≤ ((m69.1 3 0 3) + 1) → ((m69.1 3 0 3) + 1).tmod 4 = ((m69.1 3 0 3) + 1) % 4) ∧ (((m69.1 3 0 3) + 1) < 0 → ((m69.1 3 0 3) + 1).tmod 4 = -((-(((m69.1 3 0 3) + 1))) % 4)) := ⟨fun z => Int.tmod_eq_emod_of_nonneg z, fun z => wtmod_neg z⟩
        refine ww_go 8 (pc' := 74) (L' := [(3, .inl r56), (2, .inl 1), (0, .inr (.inr (.inl (some (3, 0))))), (1, .inr (.inr (.inl (some (1, s)))))]) (st' := []) (m' := wuI m69 3 0 3 (((m69.1 3 0 3) + 1).tmod 4)) (o := some ((0 < 1) ∧ (-2147483648 ≤ (m69.1 3 0 3) + 1 ∧ (m69.1 3 0 3) + 1 ≤ 2147483647 ∧ 0 < (4 : Int) ∧ (4 : Int) ≤ 2147483647) ∧ (0 < 1))) rfl (show (0 < 1) ∧ (-2147483648 ≤ (m69.1 3 0 3) + 1 ∧ (m69.1 3 0 3) + 1 ≤ 2147483647 ∧ 0 < (4 : Int) ∧ (4 : Int) ≤ 2147483647) ∧ (0 < 1) from by omega) ?_
        obtain ⟨m76, hm76⟩ : ∃ zq9 : wm, zq9 = wuI m69 3 0 3 (((m69.1 3 0 3) + 1).tmod 4) := ⟨_, rfl⟩
        rw [← hm76]
        have hGm76 : zB c m76 := by rw [hm76]; exact zB_wI rfl (show 0 ≤ ((m69.1 3 0 3) + 1).tmod 4 ∧ ((m69.1 3 0 3) + 1).tmod 4 ≤ 3 from by omega) hGm69
        have hFm76 : zfr (fun k i j => (k = 1 ∧ i = s ∧ j = 1) ∨ (k = 2 ∧ i = s) ∨ (k = 3 ∧ j = 3) ∨ (k = 5)) m0 m76 := by rw [hm76]; exact zfr_wI hFm69 (show (3 = 1 ∧ 0 = s ∧ 3 = 1) ∨ (3 = 2 ∧ 0 = s) ∨ (3 = 3 ∧ 3 = 3) ∨ (3 = 5) from Or.inr (Or.inr (Or.inl (⟨rfl, rfl⟩))))
        have s77 : m76.1 3 0 3 = ((m69.1 3 0 3) + 1).tmod 4 := by rw [hm76]; exact wuI_self
        have w78 : m76.1 5 0 0 = m69.1 5 0 0 := by rw [hm76]; rfl
        have w79 : m76.1 5 0 1 = m69.1 5 0 1 := by rw [hm76]; rfl
        have w80 : m76.1 1 s 1 = m69.1 1 s 1 := by rw [hm76]; rfl
        refine ww_go 1 (pc' := 75) (L' := [(3, .inl r56), (2, .inl 1), (0, .inr (.inr (.inl (some (3, 0))))), (1, .inr (.inr (.inl (some (1, s)))))]) (st' := [.inl 1]) (m' := m76) (o := none) rfl trivial ?_
        have pe0 := zPO_fr hG hFm76 (fun f => (show ¬ ((6 = 1 ∧ f = s ∧ 4 = 1) ∨ (6 = 2 ∧ f = s) ∨ (6 = 3 ∧ 4 = 3) ∨ (6 = 5)) from by omega)) (fun t => (show ¬ ((10 = 1 ∧ t = s ∧ 2 = 1) ∨ (10 = 2 ∧ t = s) ∨ (10 = 3 ∧ 2 = 3) ∨ (10 = 5)) from by omega)) (fun i h1 h2 => (show ¬ ((1 = 1 ∧ i = s ∧ 1 = 1) ∨ (1 = 2 ∧ i = s) ∨ (1 = 3 ∧ 1 = 3) ∨ (1 = 5)) from by omega)) 0
        have pe1 := zPO_fr hG hFm76 (fun f => (show ¬ ((6 = 1 ∧ f = s ∧ 4 = 1) ∨ (6 = 2 ∧ f = s) ∨ (6 = 3 ∧ 4 = 3) ∨ (6 = 5)) from by omega)) (fun t => (show ¬ ((10 = 1 ∧ t = s ∧ 2 = 1) ∨ (10 = 2 ∧ t = s) ∨ (10 = 3 ∧ 2 = 3) ∨ (10 = 5)) from by omega)) (fun i h1 h2 => (show ¬ ((1 = 1 ∧ i = s ∧ 1 = 1) ∨ (1 = 2 ∧ i = s) ∨ (1 = 3 ∧ 1 = 3) ∨ (1 = 5)) from by omega)) 1
        have zf9 := hr61 (by omega)
        have zf8 : zFil m0 m76 s (1 : Int) (m0.1 5 0 (1 : Int).toNat) (m0.1 3 0 2) := by rw [hm76, hm69]; exact zf9.2
        have zm8 : (m62.1 5 0 1 + 1).tmod r56 = (m0.1 5 0 1 + 1) % (zPO m0 1) := by rw [show m62.1 5 0 1 = m0.1 5 0 1 from by omega, show r56 = zPO m0 1 from by omega]; exact Int.tmod_eq_emod_of_nonneg (by omega)
        exact ww_rB rfl rfl (by omega) ⟨_, rfl, rfl, zB_mono hGm76 (by omega), hFm76, Or.inr ⟨rfl, by omega, by omega, (show _ ∧ _ from ⟨by rw [pe0]; omega, by rw [pe1]; omega⟩ : zNP _), (1 : Int), by omega, by omega, zf8, (by show m76.1 5 0 1 = (m0.1 5 0 1 + 1) % (zPO m0 1); omega), (by show m76.1 5 0 0 = m0.1 5 0 0; omega), by omega⟩⟩
      · show wW (zK sc) zM129 32 [(3, .inl r56), (2, .inl 1), (0, .inr (.inr (.inl (some (3, 0))))), (1, .inr (.inr (.inl (some (1, s)))))] [] _ _ _
        refine ww_go 1 (pc' := 33) (L' := [(3, .inl r56), (2, .inl 1), (0, .inr (.inr (.inl (some (3, 0))))), (1, .inr (.inr (.inl (some (1, s)))))]) (st' := [.inl 0]) (m' := m0) (o := none) rfl trivial ?_
        exact ww_rB rfl rfl (by omega) ⟨_, rfl, rfl, zB_mono hG (by omega), hF, Or.inl ⟨rfl, by omega, rfl⟩⟩
set_option maxRecDepth 8000 in
/-- java/lang/Math.floorMod -/
theorem zs258 {sc : xSc} {n : Nat × Nat} {m : wm} (x : Int) (h0 : 0 ≤ x ∧ x ≤ 2147483647) : wX (zK sc) 258 [.inl x, .inl 32] n m (wr (fun vv n1 m1 => ∃ r : Int, vv = some (.inl r) ∧ n = n1 ∧ m = m1 ∧ (r = x % 32))) := by
  refine wX_of (N := zM258) rfl (Nat.le_of_ble_eq_true rfl) ?_
  show wW (zK sc) zM258 0 [(0, .inl x), (1, .inl 32)] [] n m _
  have t1 : (0 ≤ x → x.tmod 32 = x % 32) ∧ (x < 0 → x.tmod 32 = -((-x) % 32)) := ⟨fun z => Int.tmod_eq_emod_of_nonneg z, fun z => wtmod_neg z⟩
  have t2 := wxor_rg x 32
  have t3 : (0 ≤ x ∧ x ≤ 255 ∧ 0 ≤ (32 : Int) ∧ (32 : Int) ≤ 255) → (0 ≤ wxor x 32 ∧ wxor x 32 ≤ 255) := fun z => wxor_255 ⟨z.1, z.2.1⟩ z.2.2
  have t4 : (0 ≤ x ∧ x ≤ 65535 ∧ 0 ≤ (32 : Int) ∧ (32 : Int) ≤ 65535) → (0 ≤ wxor x 32 ∧ wxor x 32 ≤ 65535) := fun z => wxor_65535 ⟨z.1, z.2.1⟩ z.2.2
  have t5 : (0 ≤ x ∧ x ≤ 2147483647 ∧ 0 ≤ (32 : Int) ∧ (32 : Int) ≤ 2147483647) → (0 ≤ wxor x 32 ∧ wxor x 32 ≤ 2147483647) := fun z => wxor_2147483647 ⟨z.1, z.2.1⟩ z.2.2
  refine ww_go 7 (pc' := 7) (L' := [(2, .inl (x.tmod 32)), (0, .inl x), (1, .inl 32)]) (st' := [.inl (wxor x 32)]) (m' := m) (o := some ((-2147483648 ≤ x ∧ x ≤ 2147483647 ∧ 0 < (32 : Int) ∧ (32 : Int) ≤ 2147483647))) rfl (show (-2147483648 ≤ x ∧ x ≤ 2147483647 ∧ 0 < (32 : Int) ∧ (32 : Int) ≤ 2147483647) from by omega) ?_
  refine ww_if (t := 18) rfl rfl (by omega) (fun (h6 : 0 ≤ wxor x 32) => ?_) (fun (h6 : ¬ (0 ≤ wxor x 32)) => ?_)
  · show wW (zK sc) zM258 18 [(2, .inl (x.tmod 32)), (0, .inl x), (1, .inl 32)] [] _ _ _
    refine ww_go 1 (pc' := 19) (L' := [(2, .inl (x.tmod 32)), (0, .inl x), (1, .inl 32)]) (st' := [.inl (x.tmod 32)]) (m' := m) (o := none) rfl trivial ?_
    exact ww_rI rfl rfl ⟨_, rfl, rfl, rfl, by omega⟩
  · show wW (zK sc) zM258 10 [(2, .inl (x.tmod 32)), (0, .inl x), (1, .inl 32)] [] _ _ _
    refine ww_go 1 (pc' := 11) (L' := [(2, .inl (x.tmod 32)), (0, .inl x), (1, .inl 32)]) (st' := [.inl (x.tmod 32)]) (m' := m) (o := none) rfl trivial ?_
    refine ww_if (t := 18) rfl rfl (by omega) (fun (h7 : x.tmod 32 = 0) => ?_) (fun (h7 : ¬ (x.tmod 32 = 0)) => ?_)
    · show wW (zK sc) zM258 18 [(2, .inl (x.tmod 32)), (0, .inl x), (1, .inl 32)] [] _ _ _
      refine ww_go 1 (pc' := 19) (L' := [(2, .inl (x.tmod 32)), (0, .inl x), (1, .inl 32)]) (st' := [.inl (x.tmod 32)]) (m' := m) (o := none) rfl trivial ?_
      exact ww_rI rfl rfl ⟨_, rfl, rfl, rfl, by omega⟩
    · show wW (zK sc) zM258 14 [(2, .inl (x.tmod 32)), (0, .inl x), (1, .inl 32)] [] _ _ _
      refine ww_go 3 (pc' := 17) (L' := [(2, .inl (x.tmod 32)), (0, .inl x), (1, .inl 32)]) (st' := [.inl ((x.tmod 32) + 32)]) (m' := m) (o := none) rfl trivial ?_
      exact ww_rI rfl rfl ⟨_, rfl, rfl, rfl, by omega⟩
