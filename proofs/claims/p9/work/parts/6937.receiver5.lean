set_option maxRecDepth 8000 in
/-- Receiver.dropItemRows -/
theorem yt77 {sc : xSc} {n : Nat × Nat} {m0 : wm} {c : Int} (hc : 0 ≤ c ∧ c ≤ 1000000) (x : Int) (y : Int) (t : Nat) (hG : zB c m0) (h0 : t < 10 ∧ 0 ≤ x ∧ x ≤ 1 ∧ 0 ≤ y ∧ y ≤ 6) : wX (zK sc) 77 [.inr (.inr (.inl (some (19, 0)))), .inr (.inr (.inl (some (26, t)))), .inl x, .inl y] n m0 (wr (fun vv n1 m1 => vv = none ∧ n = n1 ∧ zB c m1 ∧ zfr (fun k i j => (k = 22 ∧ j = 3) ∨ (k = 23) ∨ (k = 24) ∨ (k = 25)) m0 m1 ∧ (zLC m1 = (zLC m0).filter (zkc9 (16 * (2 * m0.1 26 t 7 + x) + 2 * y) (16 * (2 * m0.1 26 t 7 + x) + 2 * y + 1))))) := by
  refine wX_of (N := zM77) rfl (Nat.le_of_ble_eq_true rfl) ?_
  show wW (zK sc) zM77 0 [(0, .inr (.inr (.inl (some (19, 0))))), (1, .inr (.inr (.inl (some (26, t))))), (2, .inl x), (3, .inl y)] [] n m0 _
  have hF : zfr (fun k i j => (k = 22 ∧ j = 3) ∨ (k = 23) ∨ (k = 24) ∨ (k = 25)) m0 m0 := zfr_rf
  have bn0 : 0 ≤ m0.1 26 t 7 ∧ m0.1 26 t 7 ≤ 65535 := hG.1 26 _ rfl t 7
  refine ww_go 2 (pc' := 2) (L' := [(0, .inr (.inr (.inl (some (19, 0))))), (1, .inr (.inr (.inl (some (26, t))))), (2, .inl x), (3, .inl y)]) (st' := [.inr (.inr (.inl (some (26, t)))), .inl x]) (m' := m0) (o := none) rfl trivial ?_
  refine ww_call (vs := [.inr (.inr (.inl (some (26, t))))]) (r := [.inl x]) (p := t < 10) rfl rfl rfl rfl (show t < 10 from by omega) (yt155 (c := c) (by omega) t hG (by omega)) ?_
  rintro _ _ _ ⟨r1, rfl, rfl, rfl, hr2⟩
  show wW (zK sc) zM77 5 [(0, .inr (.inr (.inl (some (19, 0))))), (1, .inr (.inr (.inl (some (26, t))))), (2, .inl x), (3, .inl y)] [.inl r1, .inl x] _ _ _
  refine ww_call (vs := [.inl x, .inl r1]) (r := []) (p := True) rfl rfl rfl rfl trivial (yt113 x r1 (by omega)) ?_
  rintro _ _ _ ⟨r3, rfl, rfl, rfl, hr4⟩
  show wW (zK sc) zM77 8 [(0, .inr (.inr (.inl (some (19, 0))))), (1, .inr (.inr (.inl (some (26, t))))), (2, .inl x), (3, .inl y)] [.inl r3] _ _ _
  refine ww_go 6 (pc' := 18) (L' := [(4, .inl r3), (0, .inr (.inr (.inl (some (19, 0))))), (1, .inr (.inr (.inl (some (26, t))))), (2, .inl x), (3, .inl y)]) (st' := [.inl 0, .inl y, .inl r3, .inr (.inr (.inl (some (22, 0))))]) (m' := m0) (o := some ((0 < 1))) rfl (show (0 < 1) from by omega) ?_
  refine ww_call (vs := [.inl r3, .inl y, .inl 0]) (r := [.inr (.inr (.inl (some (22, 0))))]) (p := True) rfl rfl rfl rfl trivial (yt111 r3 y 0 (by omega)) ?_
  rintro _ _ _ ⟨r5, rfl, rfl, rfl, hr6⟩
  show wW (zK sc) zM77 21 [(4, .inl r3), (0, .inr (.inr (.inl (some (19, 0))))), (1, .inr (.inr (.inl (some (26, t))))), (2, .inl x), (3, .inl y)] [.inl r5, .inr (.inr (.inl (some (22, 0))))] _ _ _
  refine ww_go 3 (pc' := 25) (L' := [(4, .inl r3), (0, .inr (.inr (.inl (some (19, 0))))), (1, .inr (.inr (.inl (some (26, t))))), (2, .inl x), (3, .inl y)]) (st' := [.inl 1, .inl y, .inl r3, .inl r5, .inr (.inr (.inl (some (22, 0))))]) (m' := m0) (o := none) rfl trivial ?_
  refine ww_call (vs := [.inl r3, .inl y, .inl 1]) (r := [.inl r5, .inr (.inr (.inl (some (22, 0))))]) (p := True) rfl rfl rfl rfl trivial (yt111 r3 y 1 (by omega)) ?_
  rintro _ _ _ ⟨r7, rfl, rfl, rfl, hr8⟩
  show wW (zK sc) zM77 28 [(4, .inl r3), (0, .inr (.inr (.inl (some (19, 0))))), (1, .inr (.inr (.inl (some (26, t))))), (2, .inl x), (3, .inl y)] [.inl r7, .inl r5, .inr (.inr (.inl (some (22, 0))))] _ _ _
  refine ww_call (vs := [.inr (.inr (.inl (some (22, 0)))), .inl r5, .inl r7]) (r := []) (p := 0 < 1) rfl rfl rfl rfl (show 0 < 1 from by omega) (yt106 (c := c) (by omega) r5 r7 hG (by omega)) ?_
  rintro _ _ m11 ⟨rfl, rfl, hGm11, hEm11, hr10⟩
  have hFm11 : zfr (fun k i j => (k = 22 ∧ j = 3) ∨ (k = 23) ∨ (k = 24) ∨ (k = 25)) m0 m11 := zfr_tr hF hEm11 (fun k i j z => Or.elim z (fun z => Or.inl z) (fun z => Or.elim z (fun z => Or.inr (Or.inl z)) (fun z => Or.elim z (fun z => Or.inr (Or.inr (Or.inl z))) (fun z => Or.inr (Or.inr (Or.inr (z)))))))
  show wW (zK sc) zM77 31 [(4, .inl r3), (0, .inr (.inr (.inl (some (19, 0))))), (1, .inr (.inr (.inl (some (26, t))))), (2, .inl x), (3, .inl y)] [] _ _ _
  exact ww_rV rfl rfl ⟨rfl, rfl, zB_mono hGm11 (by omega), hFm11, (by have z9 := zDr_L hr10; rw [show r5 = 16 * (2 * m0.1 26 t 7 + x) + 2 * y from by omega, show r7 = 16 * (2 * m0.1 26 t 7 + x) + 2 * y + 1 from by omega] at z9; exact z9)⟩
set_option maxRecDepth 8000 in
/-- Receiver.forgetItem -/
theorem yt80 {sc : xSc} {n : Nat × Nat} {m0 : wm} {c : Int} (hc : 0 ≤ c ∧ c ≤ 1000000) (x : Int) (y : Int) (t : Nat) (hG : zB c m0) (h0 : t < 10 ∧ 0 ≤ x ∧ x ≤ 1 ∧ 0 ≤ y ∧ y ≤ 6) : wX (zK sc) 80 [.inr (.inr (.inl (some (19, 0)))), .inr (.inr (.inl (some (26, t)))), .inl x, .inl y] n m0 (wr (fun vv n1 m1 => vv = none ∧ n = n1 ∧ zB c m1 ∧ zfr (fun k i j => (k = 22 ∧ j = 3) ∨ (k = 23) ∨ (k = 24) ∨ (k = 25) ∨ (k = 1 ∧ i = 101 + 7 * t + y.toNat ∧ j = 1) ∨ (k = 29 ∧ i = t ∧ j = y.toNat) ∨ (k = 28 ∧ i = t ∧ 2 * y.toNat ≤ j ∧ j ≤ 2 * y.toNat + 1) ∨ (k = 26 ∧ i = t ∧ 9 ≤ j ∧ j ≤ 10 ∧ y = 0)) m0 m1 ∧ (zFo m0 m1 t y.toNat x))) := by
  refine wX_of (N := zM80) rfl (Nat.le_of_ble_eq_true rfl) ?_
  show wW (zK sc) zM80 0 [(0, .inr (.inr (.inl (some (19, 0))))), (1, .inr (.inr (.inl (some (26, t))))), (2, .inl x), (3, .inl y)] [] n m0 _
  have hF : zfr (fun k i j => (k = 22 ∧ j = 3) ∨ (k = 23) ∨ (k = 24) ∨ (k = 25) ∨ (k = 1 ∧ i = 101 + 7 * t + y.toNat ∧ j = 1) ∨ (k = 29 ∧ i = t ∧ j = y.toNat) ∨ (k = 28 ∧ i = t ∧ 2 * y.toNat ≤ j ∧ j ≤ 2 * y.toNat + 1) ∨ (k = 26 ∧ i = t ∧ 9 ≤ j ∧ j ≤ 10 ∧ y = 0)) m0 m0 := zfr_rf
  have bn0 : 0 ≤ m0.1 26 t 7 ∧ m0.1 26 t 7 ≤ 65535 := hG.1 26 _ rfl t 7
  refine ww_go 2 (pc' := 2) (L' := [(0, .inr (.inr (.inl (some (19, 0))))), (1, .inr (.inr (.inl (some (26, t))))), (2, .inl x), (3, .inl y)]) (st' := [.inl y, .inr (.inr (.inl (some (26, t))))]) (m' := m0) (o := none) rfl trivial ?_
  refine ww_call (vs := [.inr (.inr (.inl (some (26, t)))), .inl y]) (r := []) (p := t < 10) rfl rfl rfl rfl (show t < 10 from by omega) (yt139 (c := c) (by omega) y t hG (by omega)) ?_
  rintro _ _ m3 ⟨rfl, rfl, hGm3, hEm3, hr2⟩
  have hFm3 : zfr (fun k i j => (k = 22 ∧ j = 3) ∨ (k = 23) ∨ (k = 24) ∨ (k = 25) ∨ (k = 1 ∧ i = 101 + 7 * t + y.toNat ∧ j = 1) ∨ (k = 29 ∧ i = t ∧ j = y.toNat) ∨ (k = 28 ∧ i = t ∧ 2 * y.toNat ≤ j ∧ j ≤ 2 * y.toNat + 1) ∨ (k = 26 ∧ i = t ∧ 9 ≤ j ∧ j ≤ 10 ∧ y = 0)) m0 m3 := zfr_tr hF hEm3 (fun k i j z => Or.elim z (fun z => Or.inr (Or.inr (Or.inr (Or.inr (Or.inl z))))) (fun z => Or.elim z (fun z => Or.inr (Or.inr (Or.inr (Or.inr (Or.inr (Or.inl z)))))) (fun z => Or.elim z (fun z => Or.inr (Or.inr (Or.inr (Or.inr (Or.inr (Or.inr (Or.inl z))))))) (fun z => Or.inr (Or.inr (Or.inr (Or.inr (Or.inr (Or.inr (Or.inr (z)))))))))))
  show wW (zK sc) zM80 5 [(0, .inr (.inr (.inl (some (19, 0))))), (1, .inr (.inr (.inl (some (26, t))))), (2, .inl x), (3, .inl y)] [] _ _ _
  refine ww_go 4 (pc' := 9) (L' := [(0, .inr (.inr (.inl (some (19, 0))))), (1, .inr (.inr (.inl (some (26, t))))), (2, .inl x), (3, .inl y)]) (st' := [.inl y, .inl x, .inr (.inr (.inl (some (26, t)))), .inr (.inr (.inl (some (19, 0))))]) (m' := m3) (o := none) rfl trivial ?_
  refine ww_call (vs := [.inr (.inr (.inl (some (19, 0)))), .inr (.inr (.inl (some (26, t)))), .inl x, .inl y]) (r := []) (p := 0 < 1) rfl rfl rfl rfl (show 0 < 1 from by omega) (yt77 (c := c) (by omega) x y t hGm3 (by omega)) ?_
  rintro _ _ m6 ⟨rfl, rfl, hGm6, hEm6, hr5⟩
  have hFm6 : zfr (fun k i j => (k = 22 ∧ j = 3) ∨ (k = 23) ∨ (k = 24) ∨ (k = 25) ∨ (k = 1 ∧ i = 101 + 7 * t + y.toNat ∧ j = 1) ∨ (k = 29 ∧ i = t ∧ j = y.toNat) ∨ (k = 28 ∧ i = t ∧ 2 * y.toNat ≤ j ∧ j ≤ 2 * y.toNat + 1) ∨ (k = 26 ∧ i = t ∧ 9 ≤ j ∧ j ≤ 10 ∧ y = 0)) m0 m6 := zfr_tr hFm3 hEm6 (fun k i j z => Or.elim z (fun z => Or.inl z) (fun z => Or.elim z (fun z => Or.inr (Or.inl z)) (fun z => Or.elim z (fun z => Or.inr (Or.inr (Or.inl z))) (fun z => Or.inr (Or.inr (Or.inr (Or.inl z)))))))
  show wW (zK sc) zM80 12 [(0, .inr (.inr (.inl (some (19, 0))))), (1, .inr (.inr (.inl (some (26, t))))), (2, .inl x), (3, .inl y)] [] _ _ _
  have zn9 : m3.1 26 t 7 = m0.1 26 t 7 := (hEm3 26 t 7 (show ¬ ((26 = 1 ∧ t = 101 + 7 * t + y.toNat ∧ 7 = 1) ∨ (26 = 29 ∧ t = t ∧ 7 = y.toNat) ∨ (26 = 28 ∧ t = t ∧ 2 * y.toNat ≤ 7 ∧ 7 ≤ 2 * y.toNat + 1) ∨ (26 = 26 ∧ t = t ∧ 9 ≤ 7 ∧ 7 ≤ 10 ∧ y = 0)) from by omega)).1
  have zL9 : zLC m3 = zLC m0 := zLC_fr hEm3 (fun k j h1 h2 => (show ¬ ((k = 1 ∧ 0 = 101 + 7 * t + y.toNat ∧ j = 1) ∨ (k = 29 ∧ 0 = t ∧ j = y.toNat) ∨ (k = 28 ∧ 0 = t ∧ 2 * y.toNat ≤ j ∧ j ≤ 2 * y.toNat + 1) ∨ (k = 26 ∧ 0 = t ∧ 9 ≤ j ∧ j ≤ 10 ∧ y = 0)) from by omega))
  exact ww_rV rfl rfl ⟨rfl, rfl, zB_mono hGm6 (by omega), hFm6, ⟨zCl_fr hr2.1 hEm6 (show ¬ ((1 = 22 ∧ 1 = 3) ∨ (1 = 23) ∨ (1 = 24) ∨ (1 = 25)) from by omega) (show ¬ ((29 = 22 ∧ y.toNat = 3) ∨ (29 = 23) ∨ (29 = 24) ∨ (29 = 25)) from by omega) (show ¬ ((28 = 22 ∧ ((2 * y.toNat)) = 3) ∨ (28 = 23) ∨ (28 = 24) ∨ (28 = 25)) from by omega) (show ¬ ((28 = 22 ∧ ((2 * y.toNat + 1)) = 3) ∨ (28 = 23) ∨ (28 = 24) ∨ (28 = 25)) from by omega), fun z => ⟨((hEm6 26 t 9 (show ¬ ((26 = 22 ∧ 9 = 3) ∨ (26 = 23) ∨ (26 = 24) ∨ (26 = 25)) from by omega)).1).trans (hr2.2 (by omega)).1, ((hEm6 26 t 10 (show ¬ ((26 = 22 ∧ 10 = 3) ∨ (26 = 23) ∨ (26 = 24) ∨ (26 = 25)) from by omega)).1).trans (hr2.2 (by omega)).2⟩, (by have z9 := hr5; rw [zn9, zL9] at z9; rw [show ((y.toNat : Nat) : Int) = y from by omega]; exact z9)⟩⟩
set_option maxRecDepth 8000 in
/-- Version.holdIfRight -/
theorem yt145 {sc : xSc} {n : Nat × Nat} {m0 : wm} {c : Int} (hc : 0 ≤ c ∧ c ≤ 1000000) (x : Int) (t : Nat) (hG : zB c m0) (h0 : t < 10 ∧ 0 ≤ x ∧ x ≤ 6) : wX (zK sc) 145 [.inr (.inr (.inl (some (26, t)))), .inl x] n m0 (wr (fun vv n1 m1 => ∃ r : Int, vv = some (.inl r) ∧ n = n1 ∧ zB c m1 ∧ zfr (fun k i j => (k = 29 ∧ i = t ∧ j = x.toNat)) m0 m1 ∧ (((x < 1 ∨ m0.1 26 t 9 < x) ∧ r = 0 ∧ m0 = m1) ∨ (1 ≤ x ∧ x ≤ m0.1 26 t 9 ∧ m1.1 29 t x.toNat = r ∧ ((r = 1 ∧ zRt m0 t x.toNat) ∨ (r = 0 ∧ ¬ zRt m0 t x.toNat)))))) := by
  refine wX_of (N := zM145) rfl (Nat.le_of_ble_eq_true rfl) ?_
  show wW (zK sc) zM145 0 [(0, .inr (.inr (.inl (some (26, t))))), (1, .inl x)] [] n m0 _
  have hF : zfr (fun k i j => (k = 29 ∧ i = t ∧ j = x.toNat)) m0 m0 := zfr_rf
  have zl9 := zlim_le (101 + 7 * t + x.toNat)
  refine ww_go 2 (pc' := 2) (L' := [(0, .inr (.inr (.inl (some (26, t))))), (1, .inl x)]) (st' := [.inl 1, .inl x]) (m' := m0) (o := none) rfl trivial ?_
  refine ww_ic (t := 13) rfl rfl (by omega) (fun (h1 : x < 1) => ?_) (fun (h1 : ¬ (x < 1)) => ?_)
  · show wW (zK sc) zM145 13 [(0, .inr (.inr (.inl (some (26, t))))), (1, .inl x)] [] _ _ _
    refine ww_go 1 (pc' := 14) (L' := [(0, .inr (.inr (.inl (some (26, t))))), (1, .inl x)]) (st' := [.inl 0]) (m' := m0) (o := none) rfl trivial ?_
    exact ww_rB rfl rfl (by omega) ⟨_, rfl, rfl, zB_mono hG (by omega), hF, Or.inl ⟨by omega, rfl, rfl⟩⟩
  · show wW (zK sc) zM145 5 [(0, .inr (.inr (.inl (some (26, t))))), (1, .inl x)] [] _ _ _
    have b2 : 0 ≤ m0.1 26 t 9 ∧ m0.1 26 t 9 ≤ 6 := hG.1 26 _ rfl _ _
    refine ww_go 3 (pc' := 10) (L' := [(0, .inr (.inr (.inl (some (26, t))))), (1, .inl x)]) (st' := [.inl (m0.1 26 t 9), .inl x]) (m' := m0) (o := some ((t < 10))) rfl (show (t < 10) from by omega) ?_
    refine ww_ic (t := 15) rfl rfl (by omega) (fun (h3 : x ≤ m0.1 26 t 9) => ?_) (fun (h3 : ¬ (x ≤ m0.1 26 t 9)) => ?_)
    · show wW (zK sc) zM145 15 [(0, .inr (.inr (.inl (some (26, t))))), (1, .inl x)] [] _ _ _
      refine ww_go 9 (pc' := 28) (L' := [(2, .inr (.inr (.inl (some (1, 101 + 7 * t + x.toNat))))), (0, .inr (.inr (.inl (some (26, t))))), (1, .inl x)]) (st' := [.inr (.inr (.inl (some (1, 101 + 7 * t + x.toNat)))), .inl x, .inr (.inr (.inl (some (29, t))))]) (m' := m0) (o := some ((t < 10) ∧ (t < 10 ∧ 0 ≤ x ∧ x < ((7 : Nat) : Int)) ∧ (t < 10))) rfl (show (t < 10) ∧ (t < 10 ∧ 0 ≤ x ∧ x < ((7 : Nat) : Int)) ∧ (t < 10) from by omega) ?_
      refine ww_call (vs := [.inr (.inr (.inl (some (1, 101 + 7 * t + x.toNat))))]) (r := [.inl x, .inr (.inr (.inl (some (29, t))))]) (p := 101 + 7 * t + x.toNat < 171) rfl rfl rfl rfl (show 101 + 7 * t + x.toNat < 171 from by omega) (zs40 (c := c) (by omega) (101 + 7 * t + x.toNat) hG (by omega)) ?_
      rintro _ _ _ ⟨r4, rfl, rfl, rfl, hr5⟩
      show wW (zK sc) zM145 31 [(2, .inr (.inr (.inl (some (1, 101 + 7 * t + x.toNat))))), (0, .inr (.inr (.inl (some (26, t))))), (1, .inl x)] [.inl r4, .inl x, .inr (.inr (.inl (some (29, t))))] _ _ _
      have b6 : 0 ≤ m0.1 32 t ((x - 1).toNat) ∧ m0.1 32 t ((x - 1).toNat) ≤ 255 := hG.1 32 _ rfl _ _
      refine ww_go 6 (pc' := 39) (L' := [(2, .inr (.inr (.inl (some (1, 101 + 7 * t + x.toNat))))), (0, .inr (.inr (.inl (some (26, t))))), (1, .inl x)]) (st' := [.inl (m0.1 32 t ((x - 1).toNat)), .inl r4, .inl x, .inr (.inr (.inl (some (29, t))))]) (m' := m0) (o := some ((t < 10) ∧ (t < 10 ∧ 0 ≤ x - 1 ∧ x - 1 < ((6 : Nat) : Int)))) rfl (show (t < 10) ∧ (t < 10 ∧ 0 ≤ x - 1 ∧ x - 1 < ((6 : Nat) : Int)) from by omega) ?_
      refine ww_ic (t := 66) rfl rfl (by omega) (fun (h7 : r4 ≠ m0.1 32 t ((x - 1).toNat)) => ?_) (fun (h7 : ¬ (r4 ≠ m0.1 32 t ((x - 1).toNat))) => ?_)
      · show wW (zK sc) zM145 66 [(2, .inr (.inr (.inl (some (1, 101 + 7 * t + x.toNat))))), (0, .inr (.inr (.inl (some (26, t))))), (1, .inl x)] [.inl x, .inr (.inr (.inl (some (29, t))))] _ _ _
        refine ww_go 2 (pc' := 68) (L' := [(2, .inr (.inr (.inl (some (1, 101 + 7 * t + x.toNat))))), (0, .inr (.inr (.inl (some (26, t))))), (1, .inl x)]) (st' := []) (m' := wuI m0 29 t x.toNat 0) (o := some ((t < 10 ∧ 0 ≤ x ∧ x < ((7 : Nat) : Int) ∧ 0 ≤ (0 : Int) ∧ (0 : Int) ≤ 1))) rfl (show (t < 10 ∧ 0 ≤ x ∧ x < ((7 : Nat) : Int) ∧ 0 ≤ (0 : Int) ∧ (0 : Int) ≤ 1) from by omega) ?_
        obtain ⟨m8, hm8⟩ : ∃ zq9 : wm, zq9 = wuI m0 29 t x.toNat 0 := ⟨_, rfl⟩
        rw [← hm8]
        have hGm8 : zB c m8 := by rw [hm8]; exact zB_wI rfl (show 0 ≤ (0 : Int) ∧ (0 : Int) ≤ 1 from by omega) hG
        have hFm8 : zfr (fun k i j => (k = 29 ∧ i = t ∧ j = x.toNat)) m0 m8 := by rw [hm8]; exact zfr_wI hF (show (29 = 29 ∧ t = t ∧ x.toNat = x.toNat) from (show (29 = 29 ∧ t = t ∧ x.toNat = x.toNat) from by omega))
        have s9 : m8.1 29 t x.toNat = (0 : Int) := by rw [hm8]; exact wuI_self
        have b10 : 0 ≤ m8.1 29 t x.toNat ∧ m8.1 29 t x.toNat ≤ 1 := hGm8.1 29 _ rfl _ _
        refine ww_go 4 (pc' := 74) (L' := [(2, .inr (.inr (.inl (some (1, 101 + 7 * t + x.toNat))))), (0, .inr (.inr (.inl (some (26, t))))), (1, .inl x)]) (st' := [.inl (m8.1 29 t x.toNat)]) (m' := m8) (o := some ((t < 10) ∧ (t < 10 ∧ 0 ≤ x ∧ x < ((7 : Nat) : Int)))) rfl (show (t < 10) ∧ (t < 10 ∧ 0 ≤ x ∧ x < ((7 : Nat) : Int)) from by omega) ?_
        have zx9 : m0.1 32 t ((x - 1).toNat) = m0.1 32 t (x.toNat - 1) := by rw [show (x - 1).toNat = x.toNat - 1 from by omega]
        exact ww_rB rfl rfl (by omega) ⟨_, rfl, rfl, zB_mono hGm8 (by omega), hFm8, Or.inr ⟨by omega, by omega, by omega, Or.inr ⟨by omega, fun z => absurd z.1 (by omega)⟩⟩⟩
      · show wW (zK sc) zM145 42 [(2, .inr (.inr (.inl (some (1, 101 + 7 * t + x.toNat))))), (0, .inr (.inr (.inl (some (26, t))))), (1, .inl x)] [.inl x, .inr (.inr (.inl (some (29, t))))] _ _ _
        refine ww_go 2 (pc' := 44) (L' := [(2, .inr (.inr (.inl (some (1, 101 + 7 * t + x.toNat))))), (0, .inr (.inr (.inl (some (26, t))))), (1, .inl x)]) (st' := [.inr (.inr (.inl (some (1, 101 + 7 * t + x.toNat)))), .inr (.inr (.inl (some (1, 101 + 7 * t + x.toNat)))), .inl x, .inr (.inr (.inl (some (29, t))))]) (m' := m0) (o := none) rfl trivial ?_
        refine ww_call (vs := [.inr (.inr (.inl (some (1, 101 + 7 * t + x.toNat))))]) (r := [.inr (.inr (.inl (some (1, 101 + 7 * t + x.toNat)))), .inl x, .inr (.inr (.inl (some (29, t))))]) (p := 101 + 7 * t + x.toNat < 171) rfl rfl rfl rfl (show 101 + 7 * t + x.toNat < 171 from by omega) (zs40 (c := c) (by omega) (101 + 7 * t + x.toNat) hG (by omega)) ?_
        rintro _ _ _ ⟨r11, rfl, rfl, rfl, hr12⟩
        show wW (zK sc) zM145 47 [(2, .inr (.inr (.inl (some (1, 101 + 7 * t + x.toNat))))), (0, .inr (.inr (.inl (some (26, t))))), (1, .inl x)] [.inl r11, .inr (.inr (.inl (some (1, 101 + 7 * t + x.toNat)))), .inl x, .inr (.inr (.inl (some (29, t))))] _ _ _
        refine ww_call (vs := [.inr (.inr (.inl (some (1, 101 + 7 * t + x.toNat)))), .inl r11]) (r := [.inl x, .inr (.inr (.inl (some (29, t))))]) (p := 101 + 7 * t + x.toNat < 171) rfl rfl rfl rfl (show 101 + 7 * t + x.toNat < 171 from by omega) (zs33 (c := c) (by omega) r11 (101 + 7 * t + x.toNat) hG (by omega)) ?_
        rintro _ _ _ ⟨r13, rfl, rfl, rfl, hr14⟩
        show wW (zK sc) zM145 50 [(2, .inr (.inr (.inl (some (1, 101 + 7 * t + x.toNat))))), (0, .inr (.inr (.inl (some (26, t))))), (1, .inl x)] [.inr (.inl r13), .inl x, .inr (.inr (.inl (some (29, t))))] _ _ _
        have t15 := wlcmp_rg r13 (m0.2.1 33 t ((x - 1).toNat))
        refine ww_go 7 (pc' := 59) (L' := [(2, .inr (.inr (.inl (some (1, 101 + 7 * t + x.toNat))))), (0, .inr (.inr (.inl (some (26, t))))), (1, .inl x)]) (st' := [.inl (wlcmp r13 (m0.2.1 33 t ((x - 1).toNat))), .inl x, .inr (.inr (.inl (some (29, t))))]) (m' := m0) (o := some ((t < 10) ∧ (t < 10 ∧ 0 ≤ x - 1 ∧ x - 1 < ((6 : Nat) : Int)))) rfl (show (t < 10) ∧ (t < 10 ∧ 0 ≤ x - 1 ∧ x - 1 < ((6 : Nat) : Int)) from by omega) ?_
        refine ww_if (t := 66) rfl rfl (by omega) (fun (h16 : wlcmp r13 (m0.2.1 33 t ((x - 1).toNat)) ≠ 0) => ?_) (fun (h16 : ¬ (wlcmp r13 (m0.2.1 33 t ((x - 1).toNat)) ≠ 0)) => ?_)
        · show wW (zK sc) zM145 66 [(2, .inr (.inr (.inl (some (1, 101 + 7 * t + x.toNat))))), (0, .inr (.inr (.inl (some (26, t))))), (1, .inl x)] [.inl x, .inr (.inr (.inl (some (29, t))))] _ _ _
          refine ww_go 2 (pc' := 68) (L' := [(2, .inr (.inr (.inl (some (1, 101 + 7 * t + x.toNat))))), (0, .inr (.inr (.inl (some (26, t))))), (1, .inl x)]) (st' := []) (m' := wuI m0 29 t x.toNat 0) (o := some ((t < 10 ∧ 0 ≤ x ∧ x < ((7 : Nat) : Int) ∧ 0 ≤ (0 : Int) ∧ (0 : Int) ≤ 1))) rfl (show (t < 10 ∧ 0 ≤ x ∧ x < ((7 : Nat) : Int) ∧ 0 ≤ (0 : Int) ∧ (0 : Int) ≤ 1) from by omega) ?_
          obtain ⟨m17, hm17⟩ : ∃ zq9 : wm, zq9 = wuI m0 29 t x.toNat 0 := ⟨_, rfl⟩
          rw [← hm17]
          have hGm17 : zB c m17 := by rw [hm17]; exact zB_wI rfl (show 0 ≤ (0 : Int) ∧ (0 : Int) ≤ 1 from by omega) hG
          have hFm17 : zfr (fun k i j => (k = 29 ∧ i = t ∧ j = x.toNat)) m0 m17 := by rw [hm17]; exact zfr_wI hF (show (29 = 29 ∧ t = t ∧ x.toNat = x.toNat) from (show (29 = 29 ∧ t = t ∧ x.toNat = x.toNat) from by omega))
          have s18 : m17.1 29 t x.toNat = (0 : Int) := by rw [hm17]; exact wuI_self
          have b19 : 0 ≤ m17.1 29 t x.toNat ∧ m17.1 29 t x.toNat ≤ 1 := hGm17.1 29 _ rfl _ _
          refine ww_go 4 (pc' := 74) (L' := [(2, .inr (.inr (.inl (some (1, 101 + 7 * t + x.toNat))))), (0, .inr (.inr (.inl (some (26, t))))), (1, .inl x)]) (st' := [.inl (m17.1 29 t x.toNat)]) (m' := m17) (o := some ((t < 10) ∧ (t < 10 ∧ 0 ≤ x ∧ x < ((7 : Nat) : Int)))) rfl (show (t < 10) ∧ (t < 10 ∧ 0 ≤ x ∧ x < ((7 : Nat) : Int)) from by omega) ?_
          have zx9 : m0.1 32 t ((x - 1).toNat) = m0.1 32 t (x.toNat - 1) := by rw [show (x - 1).toNat = x.toNat - 1 from by omega]
          have zy9 : m0.2.1 33 t ((x - 1).toNat) = m0.2.1 33 t (x.toNat - 1) := by rw [show (x - 1).toNat = x.toNat - 1 from by omega]
          exact ww_rB rfl rfl (by omega) ⟨_, rfl, rfl, zB_mono hGm17 (by omega), hFm17, (by first | exact Or.inr ⟨by omega, by omega, by omega, Or.inr ⟨by omega, fun z => (by have z8 := (wlcmp_rg r13 (m0.2.1 33 t ((x - 1).toNat))).2.2.2 (by rw [hr14, hr12.1, zy9]; exact z.2); omega)⟩⟩ | exact Or.inr ⟨by omega, by omega, by omega, Or.inl ⟨by omega, by omega, (by have z8 := (wlcmp_rg r13 (m0.2.1 33 t ((x - 1).toNat))).2.2.1 (by omega); rw [hr14, hr12.1, zy9] at z8; exact z8)⟩⟩)⟩
        · show wW (zK sc) zM145 62 [(2, .inr (.inr (.inl (some (1, 101 + 7 * t + x.toNat))))), (0, .inr (.inr (.inl (some (26, t))))), (1, .inl x)] [.inl x, .inr (.inr (.inl (some (29, t))))] _ _ _
          refine ww_go 3 (pc' := 68) (L' := [(2, .inr (.inr (.inl (some (1, 101 + 7 * t + x.toNat))))), (0, .inr (.inr (.inl (some (26, t))))), (1, .inl x)]) (st' := []) (m' := wuI m0 29 t x.toNat 1) (o := some ((t < 10 ∧ 0 ≤ x ∧ x < ((7 : Nat) : Int) ∧ 0 ≤ (1 : Int) ∧ (1 : Int) ≤ 1))) rfl (show (t < 10 ∧ 0 ≤ x ∧ x < ((7 : Nat) : Int) ∧ 0 ≤ (1 : Int) ∧ (1 : Int) ≤ 1) from by omega) ?_
          obtain ⟨m20, hm20⟩ : ∃ zq9 : wm, zq9 = wuI m0 29 t x.toNat 1 := ⟨_, rfl⟩
          rw [← hm20]
          have hGm20 : zB c m20 := by rw [hm20]; exact zB_wI rfl (show 0 ≤ (1 : Int) ∧ (1 : Int) ≤ 1 from by omega) hG
          have hFm20 : zfr (fun k i j => (k = 29 ∧ i = t ∧ j = x.toNat)) m0 m20 := by rw [hm20]; exact zfr_wI hF (show (29 = 29 ∧ t = t ∧ x.toNat = x.toNat) from (show (29 = 29 ∧ t = t ∧ x.toNat = x.toNat) from by omega))
          have s21 : m20.1 29 t x.toNat = (1 : Int) := by rw [hm20]; exact wuI_self
          have b22 : 0 ≤ m20.1 29 t x.toNat ∧ m20.1 29 t x.toNat ≤ 1 := hGm20.1 29 _ rfl _ _
          refine ww_go 4 (pc' := 74) (L' := [(2, .inr (.inr (.inl (some (1, 101 + 7 * t + x.toNat))))), (0, .inr (.inr (.inl (some (26, t))))), (1, .inl x)]) (st' := [.inl (m20.1 29 t x.toNat)]) (m' := m20) (o := some ((t < 10) ∧ (t < 10 ∧ 0 ≤ x ∧ x < ((7 : Nat) : Int)))) rfl (show (t < 10) ∧ (t < 10 ∧ 0 ≤ x ∧ x < ((7 : Nat) : Int)) from by omega) ?_
          have zx9 : m0.1 32 t ((x - 1).toNat) = m0.1 32 t (x.toNat - 1) := by rw [show (x - 1).toNat = x.toNat - 1 from by omega]
          have zy9 : m0.2.1 33 t ((x - 1).toNat) = m0.2.1 33 t (x.toNat - 1) := by rw [show (x - 1).toNat = x.toNat - 1 from by omega]
          exact ww_rB rfl rfl (by omega) ⟨_, rfl, rfl, zB_mono hGm20 (by omega), hFm20, (by first | exact Or.inr ⟨by omega, by omega, by omega, Or.inr ⟨by omega, fun z => (by have z8 := (wlcmp_rg r13 (m0.2.1 33 t ((x - 1).toNat))).2.2.2 (by rw [hr14, hr12.1, zy9]; exact z.2); omega)⟩⟩ | exact Or.inr ⟨by omega, by omega, by omega, Or.inl ⟨by omega, by omega, (by have z8 := (wlcmp_rg r13 (m0.2.1 33 t ((x - 1).toNat))).2.2.1 (by omega); rw [hr14, hr12.1, zy9] at z8; exact z8)⟩⟩)⟩
    · show wW (zK sc) zM145 13 [(0, .inr (.inr (.inl (some (26, t))))), (1, .inl x)] [] _ _ _
      refine ww_go 1 (pc' := 14) (L' := [(0, .inr (.inr (.inl (some (26, t))))), (1, .inl x)]) (st' := [.inl 0]) (m' := m0) (o := none) rfl trivial ?_
      exact ww_rB rfl rfl (by omega) ⟨_, rfl, rfl, zB_mono hG (by omega), hF, Or.inl ⟨by omega, rfl, rfl⟩⟩
set_option maxRecDepth 8000 in
/-- Receiver.lookAtFile -/
theorem yt94 {sc : xSc} {n : Nat × Nat} {m0 : wm} {c : Int} (hc : 0 ≤ c ∧ c ≤ 1000000) (x : Int) (y : Int) (t : Nat) (hG : zB c m0) (h0 : t < 10 ∧ 0 ≤ x ∧ x ≤ 1 ∧ 0 ≤ y ∧ y ≤ 6) : wX (zK sc) 94 [.inr (.inr (.inl (some (19, 0)))), .inr (.inr (.inl (some (26, t)))), .inl x, .inl y] n m0 (wr (fun vv n1 m1 => vv = none ∧ n = n1 ∧ zB c m1 ∧ zfr (fun k i j => (k = 22 ∧ j = 3) ∨ (k = 23) ∨ (k = 24) ∨ (k = 25) ∨ (k = 1 ∧ i = 101 + 7 * t + y.toNat ∧ j = 1) ∨ (k = 29 ∧ i = t ∧ j = y.toNat) ∨ (k = 28 ∧ i = t ∧ 2 * y.toNat ≤ j ∧ j ≤ 2 * y.toNat + 1) ∨ (k = 26 ∧ i = t ∧ 9 ≤ j ∧ j ≤ 10 ∧ y = 0)) m0 m1 ∧ (zLf m0 m1 t y.toNat x))) := by
  refine wX_of (N := zM94) rfl (Nat.le_of_ble_eq_true rfl) ?_
  show wW (zK sc) zM94 0 [(0, .inr (.inr (.inl (some (19, 0))))), (1, .inr (.inr (.inl (some (26, t))))), (2, .inl x), (3, .inl y)] [] n m0 _
  have hF : zfr (fun k i j => (k = 22 ∧ j = 3) ∨ (k = 23) ∨ (k = 24) ∨ (k = 25) ∨ (k = 1 ∧ i = 101 + 7 * t + y.toNat ∧ j = 1) ∨ (k = 29 ∧ i = t ∧ j = y.toNat) ∨ (k = 28 ∧ i = t ∧ 2 * y.toNat ≤ j ∧ j ≤ 2 * y.toNat + 1) ∨ (k = 26 ∧ i = t ∧ 9 ≤ j ∧ j ≤ 10 ∧ y = 0)) m0 m0 := zfr_rf
  have bn0 : 0 ≤ m0.1 26 t 7 ∧ m0.1 26 t 7 ≤ 65535 := hG.1 26 _ rfl t 7
  refine ww_go 2 (pc' := 2) (L' := [(0, .inr (.inr (.inl (some (19, 0))))), (1, .inr (.inr (.inl (some (26, t))))), (2, .inl x), (3, .inl y)]) (st' := [.inl y, .inr (.inr (.inl (some (26, t))))]) (m' := m0) (o := none) rfl trivial ?_
  refine ww_call (vs := [.inr (.inr (.inl (some (26, t)))), .inl y]) (r := []) (p := t < 10) rfl rfl rfl rfl (show t < 10 from by omega) (yt145 (c := c) (by omega) y t hG (by omega)) ?_
  rintro _ _ m3 ⟨r1, rfl, rfl, hGm3, hEm3, hr2⟩
  have hFm3 : zfr (fun k i j => (k = 22 ∧ j = 3) ∨ (k = 23) ∨ (k = 24) ∨ (k = 25) ∨ (k = 1 ∧ i = 101 + 7 * t + y.toNat ∧ j = 1) ∨ (k = 29 ∧ i = t ∧ j = y.toNat) ∨ (k = 28 ∧ i = t ∧ 2 * y.toNat ≤ j ∧ j ≤ 2 * y.toNat + 1) ∨ (k = 26 ∧ i = t ∧ 9 ≤ j ∧ j ≤ 10 ∧ y = 0)) m0 m3 := zfr_tr hF hEm3 (fun k i j z => Or.inr (Or.inr (Or.inr (Or.inr (Or.inr (Or.inl z))))))
  show wW (zK sc) zM94 5 [(0, .inr (.inr (.inl (some (19, 0))))), (1, .inr (.inr (.inl (some (26, t))))), (2, .inl x), (3, .inl y)] [.inl r1] _ _ _
  refine ww_if (t := 15) rfl rfl (by omega) (fun (h4 : r1 ≠ 0) => ?_) (fun (h4 : ¬ (r1 ≠ 0)) => ?_)
  · show wW (zK sc) zM94 15 [(0, .inr (.inr (.inl (some (19, 0))))), (1, .inr (.inr (.inl (some (26, t))))), (2, .inl x), (3, .inl y)] [] _ _ _
    have zei9 : zfr (zEi t y.toNat) m0 m3 := zfr_tr zfr_rf hFm3 (fun k i j z => Or.imp id (Or.imp id (Or.imp id (Or.imp id (Or.imp id (Or.imp id (Or.imp id (fun z => ⟨z.1, z.2.1, z.2.2.1, z.2.2.2.1, by omega⟩))))))) z)
    exact ww_rV rfl rfl ⟨rfl, rfl, zB_mono hGm3 (by omega), hFm3, ⟨zei9, Or.inl (hr2.elim (fun z => absurd z.2.1 (by omega)) (fun z => ⟨⟨by omega, by omega, (z.2.2.2.elim (fun z => z.2) (fun z => absurd z.1 (by omega)))⟩, by omega, zfr_tr zfr_rf hEm3 (fun k i j z => z)⟩))⟩⟩
  · show wW (zK sc) zM94 8 [(0, .inr (.inr (.inl (some (19, 0))))), (1, .inr (.inr (.inl (some (26, t))))), (2, .inl x), (3, .inl y)] [] _ _ _
    refine ww_go 4 (pc' := 12) (L' := [(0, .inr (.inr (.inl (some (19, 0))))), (1, .inr (.inr (.inl (some (26, t))))), (2, .inl x), (3, .inl y)]) (st' := [.inl y, .inl x, .inr (.inr (.inl (some (26, t)))), .inr (.inr (.inl (some (19, 0))))]) (m' := m3) (o := none) rfl trivial ?_
    refine ww_call (vs := [.inr (.inr (.inl (some (19, 0)))), .inr (.inr (.inl (some (26, t)))), .inl x, .inl y]) (r := []) (p := 0 < 1) rfl rfl rfl rfl (show 0 < 1 from by omega) (yt80 (c := c) (by omega) x y t hGm3 (by omega)) ?_
    rintro _ _ m7 ⟨rfl, rfl, hGm7, hEm7, hr6⟩
    have hFm7 : zfr (fun k i j => (k = 22 ∧ j = 3) ∨ (k = 23) ∨ (k = 24) ∨ (k = 25) ∨ (k = 1 ∧ i = 101 + 7 * t + y.toNat ∧ j = 1) ∨ (k = 29 ∧ i = t ∧ j = y.toNat) ∨ (k = 28 ∧ i = t ∧ 2 * y.toNat ≤ j ∧ j ≤ 2 * y.toNat + 1) ∨ (k = 26 ∧ i = t ∧ 9 ≤ j ∧ j ≤ 10 ∧ y = 0)) m0 m7 := zfr_tr hFm3 hEm7 (fun k i j z => Or.elim z (fun z => Or.inl z) (fun z => Or.elim z (fun z => Or.inr (Or.inl z)) (fun z => Or.elim z (fun z => Or.inr (Or.inr (Or.inl z))) (fun z => Or.elim z (fun z => Or.inr (Or.inr (Or.inr (Or.inl z)))) (fun z => Or.elim z (fun z => Or.inr (Or.inr (Or.inr (Or.inr (Or.inl z))))) (fun z => Or.elim z (fun z => Or.inr (Or.inr (Or.inr (Or.inr (Or.inr (Or.inl z)))))) (fun z => Or.elim z (fun z => Or.inr (Or.inr (Or.inr (Or.inr (Or.inr (Or.inr (Or.inl z))))))) (fun z => Or.inr (Or.inr (Or.inr (Or.inr (Or.inr (Or.inr (Or.inr (z)))))))))))))))
    show wW (zK sc) zM94 15 [(0, .inr (.inr (.inl (some (19, 0))))), (1, .inr (.inr (.inl (some (26, t))))), (2, .inl x), (3, .inl y)] [] _ _ _
    have zn9 : m3.1 26 t 7 = m0.1 26 t 7 := (hEm3 26 t 7 (show ¬ ((26 = 29 ∧ t = t ∧ 7 = y.toNat)) from by omega)).1
    have zL9 : zLC m3 = zLC m0 := zLC_fr hEm3 (fun k j h1 h2 => (show ¬ ((k = 29 ∧ 0 = t ∧ j = y.toNat)) from by omega))
    have zei9 : zfr (zEi t y.toNat) m0 m7 := zfr_tr zfr_rf hFm7 (fun k i j z => Or.imp id (Or.imp id (Or.imp id (Or.imp id (Or.imp id (Or.imp id (Or.imp id (fun z => ⟨z.1, z.2.1, z.2.2.1, z.2.2.2.1, by omega⟩))))))) z)
    exact ww_rV rfl rfl ⟨rfl, rfl, zB_mono hGm7 (by omega), hFm7, ⟨zei9, Or.inr ⟨fun ⟨z1, z2, z3⟩ => hr2.elim (fun z => absurd z.1 (by omega)) (fun z => z.2.2.2.elim (fun z => absurd z.1 (by omega)) (fun z => z.2 z3)), (by have z9 := hr6; unfold zFo at z9 ⊢; rw [zn9, zL9] at z9; exact z9)⟩⟩⟩
set_option maxRecDepth 8000 in
theorem yt143_l2 {sc : xSc} {n : Nat × Nat} {m : wm} {c : Int} (hc : 0 ≤ c ∧ c ≤ 1000000) (x : Int) (t : Nat) (s : Nat) (hG : zB c m) (h0 : t < 10 ∧ s < 10 ∧ 1 ≤ x ∧ x ≤ 6) : ∀ (d : Nat), ∀ (y : Int), (7 - y).toNat = d → (1 ≤ y ∧ y ≤ m.1 26 t 9 + 1) → (∀ q : Nat, 1 ≤ q → (q : Int) < y → ¬ zHl m t s x.toNat q) →  wW (zK sc) zM143 2 [(0, .inr (.inr (.inl (some (26, t))))), (1, .inr (.inr (.inl (some (26, s))))), (2, .inl x), (3, .inl y)] [] n m (wr (fun vv n1 m1 => ∃ r : Int, vv = some (.inl r) ∧ n = n1 ∧ m = m1 ∧ ((r = 0 ∧ ∀ q : Nat, 1 ≤ q → (q : Int) ≤ m.1 26 t 9 → ¬ zHl m t s x.toNat q) ∨ (1 ≤ r ∧ r ≤ m.1 26 t 9 ∧ r ≤ 6 ∧ zHl m t s x.toNat r.toNat)))) := by
  intro d
  induction d using Nat.strongRecOn with
  | ind d ih =>
    intro y hd hi hn
    have bf9 : 0 ≤ m.1 26 t 9 ∧ m.1 26 t 9 ≤ 6 := hG.1 26 _ rfl t 9
    have b1 : 0 ≤ m.1 26 t 9 ∧ m.1 26 t 9 ≤ 6 := hG.1 26 _ rfl _ _
    refine ww_go 3 (pc' := 7) (L' := [(0, .inr (.inr (.inl (some (26, t))))), (1, .inr (.inr (.inl (some (26, s))))), (2, .inl x), (3, .inl y)]) (st' := [.inl (m.1 26 t 9), .inl y]) (m' := m) (o := some ((t < 10))) rfl (show (t < 10) from by omega) ?_
    refine ww_ic (t := 66) rfl rfl (by omega) (fun (h2 : m.1 26 t 9 < y) => ?_) (fun (h2 : ¬ (m.1 26 t 9 < y)) => ?_)
    · show wW (zK sc) zM143 66 [(0, .inr (.inr (.inl (some (26, t))))), (1, .inr (.inr (.inl (some (26, s))))), (2, .inl x), (3, .inl y)] [] _ _ _
      refine ww_go 1 (pc' := 67) (L' := [(0, .inr (.inr (.inl (some (26, t))))), (1, .inr (.inr (.inl (some (26, s))))), (2, .inl x), (3, .inl y)]) (st' := [.inl 0]) (m' := m) (o := none) rfl trivial ?_
      exact ww_rI rfl rfl ⟨_, rfl, rfl, rfl, by exact Or.inl ⟨rfl, fun q h1 h2 => hn q h1 (by omega)⟩⟩
    · show wW (zK sc) zM143 10 [(0, .inr (.inr (.inl (some (26, t))))), (1, .inr (.inr (.inl (some (26, s))))), (2, .inl x), (3, .inl y)] [] _ _ _
      have b3 : 0 ≤ m.1 29 t y.toNat ∧ m.1 29 t y.toNat ≤ 1 := hG.1 29 _ rfl _ _
      refine ww_go 4 (pc' := 16) (L' := [(0, .inr (.inr (.inl (some (26, t))))), (1, .inr (.inr (.inl (some (26, s))))), (2, .inl x), (3, .inl y)]) (st' := [.inl (m.1 29 t y.toNat)]) (m' := m) (o := some ((t < 10) ∧ (t < 10 ∧ 0 ≤ y ∧ y < ((7 : Nat) : Int)))) rfl (show (t < 10) ∧ (t < 10 ∧ 0 ≤ y ∧ y < ((7 : Nat) : Int)) from by omega) ?_
      refine ww_if (t := 60) rfl rfl (by omega) (fun (h4 : m.1 29 t y.toNat = 0) => ?_) (fun (h4 : ¬ (m.1 29 t y.toNat = 0)) => ?_)
      · show wW (zK sc) zM143 60 [(0, .inr (.inr (.inl (some (26, t))))), (1, .inr (.inr (.inl (some (26, s))))), (2, .inl x), (3, .inl y)] [] _ _ _
        refine ww_go 2 (pc' := 2) (L' := [(3, .inl (y + 1)), (0, .inr (.inr (.inl (some (26, t))))), (1, .inr (.inr (.inl (some (26, s))))), (2, .inl x)]) (st' := []) (m' := m) (o := none) rfl trivial ?_
        refine ww_sub (L := [(0, .inr (.inr (.inl (some (26, t))))), (1, .inr (.inr (.inl (some (26, s))))), (2, .inl x), (3, .inl (y + 1))]) ⟨rfl, rfl, rfl, rfl, trivial⟩ rfl rfl ?_
        exact (ih _ (by omega)) (y + 1) rfl (by omega) (by exact fun q h1 h2 => (Decidable.em ((q : Int) < y)).elim (fun z => hn q h1 z) (fun z ⟨z1, z2, z3⟩ => (by rw [show q - 1 = (y - 1).toNat from by omega, show x.toNat - 1 = (x - 1).toNat from by omega] at z2 z3; rw [show q = y.toNat from by omega] at z1; have z8 := (wlcmp_rg (m.2.1 33 t ((y - 1).toNat)) (m.2.1 33 s ((x - 1).toNat))).2.2.2 z3; omega)))
      · show wW (zK sc) zM143 19 [(0, .inr (.inr (.inl (some (26, t))))), (1, .inr (.inr (.inl (some (26, s))))), (2, .inl x), (3, .inl y)] [] _ _ _
        have b5 : 0 ≤ m.1 32 t ((y - 1).toNat) ∧ m.1 32 t ((y - 1).toNat) ≤ 255 := hG.1 32 _ rfl _ _
        have b6 : 0 ≤ m.1 32 s ((x - 1).toNat) ∧ m.1 32 s ((x - 1).toNat) ≤ 255 := hG.1 32 _ rfl _ _
        refine ww_go 12 (pc' := 35) (L' := [(0, .inr (.inr (.inl (some (26, t))))), (1, .inr (.inr (.inl (some (26, s))))), (2, .inl x), (3, .inl y)]) (st' := [.inl (m.1 32 s ((x - 1).toNat)), .inl (m.1 32 t ((y - 1).toNat))]) (m' := m) (o := some ((t < 10) ∧ (t < 10 ∧ 0 ≤ y - 1 ∧ y - 1 < ((6 : Nat) : Int)) ∧ (s < 10) ∧ (s < 10 ∧ 0 ≤ x - 1 ∧ x - 1 < ((6 : Nat) : Int)))) rfl (show (t < 10) ∧ (t < 10 ∧ 0 ≤ y - 1 ∧ y - 1 < ((6 : Nat) : Int)) ∧ (s < 10) ∧ (s < 10 ∧ 0 ≤ x - 1 ∧ x - 1 < ((6 : Nat) : Int)) from by omega) ?_
        refine ww_ic (t := 60) rfl rfl (by omega) (fun (h7 : m.1 32 t ((y - 1).toNat) ≠ m.1 32 s ((x - 1).toNat)) => ?_) (fun (h7 : ¬ (m.1 32 t ((y - 1).toNat) ≠ m.1 32 s ((x - 1).toNat))) => ?_)
        · show wW (zK sc) zM143 60 [(0, .inr (.inr (.inl (some (26, t))))), (1, .inr (.inr (.inl (some (26, s))))), (2, .inl x), (3, .inl y)] [] _ _ _
          refine ww_go 2 (pc' := 2) (L' := [(3, .inl (y + 1)), (0, .inr (.inr (.inl (some (26, t))))), (1, .inr (.inr (.inl (some (26, s))))), (2, .inl x)]) (st' := []) (m' := m) (o := none) rfl trivial ?_
          refine ww_sub (L := [(0, .inr (.inr (.inl (some (26, t))))), (1, .inr (.inr (.inl (some (26, s))))), (2, .inl x), (3, .inl (y + 1))]) ⟨rfl, rfl, rfl, rfl, trivial⟩ rfl rfl ?_
          exact (ih _ (by omega)) (y + 1) rfl (by omega) (by exact fun q h1 h2 => (Decidable.em ((q : Int) < y)).elim (fun z => hn q h1 z) (fun z ⟨z1, z2, z3⟩ => (by rw [show q - 1 = (y - 1).toNat from by omega, show x.toNat - 1 = (x - 1).toNat from by omega] at z2 z3; rw [show q = y.toNat from by omega] at z1; have z8 := (wlcmp_rg (m.2.1 33 t ((y - 1).toNat)) (m.2.1 33 s ((x - 1).toNat))).2.2.2 z3; omega)))
        · show wW (zK sc) zM143 38 [(0, .inr (.inr (.inl (some (26, t))))), (1, .inr (.inr (.inl (some (26, s))))), (2, .inl x), (3, .inl y)] [] _ _ _
          have t8 := wlcmp_rg (m.2.1 33 t ((y - 1).toNat)) (m.2.1 33 s ((x - 1).toNat))
          refine ww_go 13 (pc' := 55) (L' := [(0, .inr (.inr (.inl (some (26, t))))), (1, .inr (.inr (.inl (some (26, s))))), (2, .inl x), (3, .inl y)]) (st' := [.inl (wlcmp (m.2.1 33 t ((y - 1).toNat)) (m.2.1 33 s ((x - 1).toNat)))]) (m' := m) (o := some ((t < 10) ∧ (t < 10 ∧ 0 ≤ y - 1 ∧ y - 1 < ((6 : Nat) : Int)) ∧ (s < 10) ∧ (s < 10 ∧ 0 ≤ x - 1 ∧ x - 1 < ((6 : Nat) : Int)))) rfl (show (t < 10) ∧ (t < 10 ∧ 0 ≤ y - 1 ∧ y - 1 < ((6 : Nat) : Int)) ∧ (s < 10) ∧ (s < 10 ∧ 0 ≤ x - 1 ∧ x - 1 < ((6 : Nat) : Int)) from by omega) ?_
          refine ww_if (t := 60) rfl rfl (by omega) (fun (h9 : wlcmp (m.2.1 33 t ((y - 1).toNat)) (m.2.1 33 s ((x - 1).toNat)) ≠ 0) => ?_) (fun (h9 : ¬ (wlcmp (m.2.1 33 t ((y - 1).toNat)) (m.2.1 33 s ((x - 1).toNat)) ≠ 0)) => ?_)
          · show wW (zK sc) zM143 60 [(0, .inr (.inr (.inl (some (26, t))))), (1, .inr (.inr (.inl (some (26, s))))), (2, .inl x), (3, .inl y)] [] _ _ _
            refine ww_go 2 (pc' := 2) (L' := [(3, .inl (y + 1)), (0, .inr (.inr (.inl (some (26, t))))), (1, .inr (.inr (.inl (some (26, s))))), (2, .inl x)]) (st' := []) (m' := m) (o := none) rfl trivial ?_
            refine ww_sub (L := [(0, .inr (.inr (.inl (some (26, t))))), (1, .inr (.inr (.inl (some (26, s))))), (2, .inl x), (3, .inl (y + 1))]) ⟨rfl, rfl, rfl, rfl, trivial⟩ rfl rfl ?_
            exact (ih _ (by omega)) (y + 1) rfl (by omega) (by exact fun q h1 h2 => (Decidable.em ((q : Int) < y)).elim (fun z => hn q h1 z) (fun z ⟨z1, z2, z3⟩ => (by rw [show q - 1 = (y - 1).toNat from by omega, show x.toNat - 1 = (x - 1).toNat from by omega] at z2 z3; rw [show q = y.toNat from by omega] at z1; have z8 := (wlcmp_rg (m.2.1 33 t ((y - 1).toNat)) (m.2.1 33 s ((x - 1).toNat))).2.2.2 z3; omega)))
          · show wW (zK sc) zM143 58 [(0, .inr (.inr (.inl (some (26, t))))), (1, .inr (.inr (.inl (some (26, s))))), (2, .inl x), (3, .inl y)] [] _ _ _
            refine ww_go 1 (pc' := 59) (L' := [(0, .inr (.inr (.inl (some (26, t))))), (1, .inr (.inr (.inl (some (26, s))))), (2, .inl x), (3, .inl y)]) (st' := [.inl y]) (m' := m) (o := none) rfl trivial ?_
            exact ww_rI rfl rfl ⟨_, rfl, rfl, rfl, by exact Or.inr ⟨by omega, by omega, by omega, by omega, (by rw [show y.toNat - 1 = (y - 1).toNat from by omega, show x.toNat - 1 = (x - 1).toNat from by omega]; omega), (by rw [show y.toNat - 1 = (y - 1).toNat from by omega, show x.toNat - 1 = (x - 1).toNat from by omega]; exact (wlcmp_rg (m.2.1 33 t ((y - 1).toNat)) (m.2.1 33 s ((x - 1).toNat))).2.2.1 (by omega))⟩⟩
set_option maxRecDepth 8000 in
/-- Version.heldLike -/
theorem yt143 {sc : xSc} {n : Nat × Nat} {m : wm} {c : Int} (hc : 0 ≤ c ∧ c ≤ 1000000) (x : Int) (t : Nat) (s : Nat) (hG : zB c m) (h0 : t < 10 ∧ s < 10 ∧ 1 ≤ x ∧ x ≤ 6) : wX (zK sc) 143 [.inr (.inr (.inl (some (26, t)))), .inr (.inr (.inl (some (26, s)))), .inl x] n m (wr (fun vv n1 m1 => ∃ r : Int, vv = some (.inl r) ∧ n = n1 ∧ m = m1 ∧ ((r = 0 ∧ ∀ q : Nat, 1 ≤ q → (q : Int) ≤ m.1 26 t 9 → ¬ zHl m t s x.toNat q) ∨ (1 ≤ r ∧ r ≤ m.1 26 t 9 ∧ r ≤ 6 ∧ zHl m t s x.toNat r.toNat)))) := by
  refine wX_of (N := zM143) rfl (Nat.le_of_ble_eq_true rfl) ?_
  show wW (zK sc) zM143 0 [(0, .inr (.inr (.inl (some (26, t))))), (1, .inr (.inr (.inl (some (26, s))))), (2, .inl x)] [] n m _
  have bf9 : 0 ≤ m.1 26 t 9 ∧ m.1 26 t 9 ≤ 6 := hG.1 26 _ rfl t 9
  refine ww_go 2 (pc' := 2) (L' := [(3, .inl 1), (0, .inr (.inr (.inl (some (26, t))))), (1, .inr (.inr (.inl (some (26, s))))), (2, .inl x)]) (st' := []) (m' := m) (o := none) rfl trivial ?_
  refine ww_sub (L := [(0, .inr (.inr (.inl (some (26, t))))), (1, .inr (.inr (.inl (some (26, s))))), (2, .inl x), (3, .inl 1)]) ⟨rfl, rfl, rfl, rfl, trivial⟩ rfl rfl ?_
  exact (yt143_l2 hc x t s hG h0 _) 1 rfl (by omega) (by exact fun q h1 h2 => absurd h2 (by omega))
set_option maxRecDepth 8000 in
theorem yt144_l19 {sc : xSc} {n : Nat × Nat} {m0 : wm} {c : Int} (hc : 0 ≤ c ∧ c ≤ 1000000) (x : Int) (t : Nat) (s : Nat) (hG : zB c m0) (h0 : t < 10 ∧ 0 ≤ x ∧ x ≤ 6 ∧ 101 ≤ s ∧ s < 171 ∧ s ≠ (101 + 7 * t + x.toNat)) : ∀ (d : Nat), ∀ (y : Int) (m : wm), (2 - y).toNat = d → zB c m → zfr (fun k i j => (k = 1 ∧ i = (101 + 7 * t + x.toNat) ∧ j = 1) ∨ (k = 2 ∧ i = (101 + 7 * t + x.toNat)) ∨ (k = 29 ∧ i = t ∧ j = x.toNat) ∨ (k = 28 ∧ i = t ∧ 2 * x.toNat ≤ j ∧ j ≤ 2 * x.toNat + 1)) m0 m → (0 ≤ y ∧ y ≤ 2) → (m.1 1 (101 + 7 * t + x.toNat) 1 = m0.1 1 s 1 ∧ m.1 29 t x.toNat = 1) → ((1 ≤ y → m.1 28 t (2 * x.toNat) = 1) ∧ (2 ≤ y → m.1 28 t (2 * x.toNat + 1) = (if 64 < m0.1 1 s 1 then 1 else 0))) →  wW (zK sc) zM144 19 [(0, .inr (.inr (.inl (some (26, t))))), (1, .inl x), (2, .inr (.inr (.inl (some (1, s))))), (3, .inl y)] [] n m (wr (fun vv n1 m1 => vv = none ∧ n = n1 ∧ zB c m1 ∧ zfr (fun k i j => (k = 1 ∧ i = (101 + 7 * t + x.toNat) ∧ j = 1) ∨ (k = 2 ∧ i = (101 + 7 * t + x.toNat)) ∨ (k = 29 ∧ i = t ∧ j = x.toNat) ∨ (k = 28 ∧ i = t ∧ 2 * x.toNat ≤ j ∧ j ≤ 2 * x.toNat + 1)) m0 m1 ∧ (zHc m1 t x.toNat (m0.1 1 s 1)))) := by
  intro d
  induction d using Nat.strongRecOn with
  | ind d ih =>
    intro y m hd hGm hFm hi hm hs
    have zl8 := zlim_le s
    have zs0 : 0 ≤ m0.1 1 s 1 ∧ m0.1 1 s 1 ≤ zlim s := hG.1 1 _ rfl s 1
    have hz9 : m.1 1 s 1 = m0.1 1 s 1 := (hFm 1 s 1 (show ¬ ((1 = 1 ∧ s = (101 + 7 * t + x.toNat) ∧ 1 = 1) ∨ (1 = 2 ∧ s = (101 + 7 * t + x.toNat)) ∨ (1 = 29 ∧ s = t ∧ 1 = x.toNat) ∨ (1 = 28 ∧ s = t ∧ 2 * x.toNat ≤ 1 ∧ 1 ≤ 2 * x.toNat + 1)) from by omega)).1
    refine ww_go 2 (pc' := 21) (L' := [(0, .inr (.inr (.inl (some (26, t))))), (1, .inl x), (2, .inr (.inr (.inl (some (1, s))))), (3, .inl y)]) (st' := [.inl 2, .inl y]) (m' := m) (o := none) rfl trivial ?_
    refine ww_ic (t := 56) rfl rfl (by omega) (fun (h1 : 2 ≤ y) => ?_) (fun (h1 : ¬ (2 ≤ y)) => ?_)
    · show wW (zK sc) zM144 56 [(0, .inr (.inr (.inl (some (26, t))))), (1, .inl x), (2, .inr (.inr (.inl (some (1, s))))), (3, .inl y)] [] _ _ _
      exact ww_rV rfl rfl ⟨rfl, rfl, zB_mono hGm (by omega), hFm, ⟨by omega, by omega, hs.1 (by omega), hs.2 (by omega)⟩⟩
    · show wW (zK sc) zM144 24 [(0, .inr (.inr (.inl (some (26, t))))), (1, .inl x), (2, .inr (.inr (.inl (some (1, s))))), (3, .inl y)] [] _ _ _
      refine ww_go 9 (pc' := 35) (L' := [(0, .inr (.inr (.inl (some (26, t))))), (1, .inl x), (2, .inr (.inr (.inl (some (1, s))))), (3, .inl y)]) (st' := [.inr (.inr (.inl (some (1, s)))), .inl y, .inl ((x * 2) + y), .inr (.inr (.inl (some (28, t))))]) (m' := m) (o := some ((t < 10))) rfl (show (t < 10) from by omega) ?_
      refine ww_call (vs := [.inr (.inr (.inl (some (1, s))))]) (r := [.inl y, .inl ((x * 2) + y), .inr (.inr (.inl (some (28, t))))]) (p := s < 171) rfl rfl rfl rfl (show s < 171 from by omega) (zs40 (c := c) (by omega) s hGm (by omega)) ?_
      rintro _ _ _ ⟨r2, rfl, rfl, rfl, hr3⟩
      show wW (zK sc) zM144 38 [(0, .inr (.inr (.inl (some (26, t))))), (1, .inl x), (2, .inr (.inr (.inl (some (1, s))))), (3, .inl y)] [.inl r2, .inl y, .inl ((x * 2) + y), .inr (.inr (.inl (some (28, t))))] _ _ _
      refine ww_call (vs := [.inl r2]) (r := [.inl y, .inl ((x * 2) + y), .inr (.inr (.inl (some (28, t))))]) (p := True) rfl rfl rfl rfl trivial (zs42 r2 (by omega)) ?_
      rintro _ _ _ ⟨r4, rfl, rfl, rfl, hr5⟩
      show wW (zK sc) zM144 41 [(0, .inr (.inr (.inl (some (26, t))))), (1, .inl x), (2, .inr (.inr (.inl (some (1, s))))), (3, .inl y)] [.inl r4, .inl y, .inl ((x * 2) + y), .inr (.inr (.inl (some (28, t))))] _ _ _
      refine ww_ic (t := 48) rfl rfl (by omega) (fun (h6 : r4 ≤ y) => ?_) (fun (h6 : ¬ (r4 ≤ y)) => ?_)
      · show wW (zK sc) zM144 48 [(0, .inr (.inr (.inl (some (26, t))))), (1, .inl x), (2, .inr (.inr (.inl (some (1, s))))), (3, .inl y)] [.inl ((x * 2) + y), .inr (.inr (.inl (some (28, t))))] _ _ _
        refine ww_go 2 (pc' := 50) (L' := [(0, .inr (.inr (.inl (some (26, t))))), (1, .inl x), (2, .inr (.inr (.inl (some (1, s))))), (3, .inl y)]) (st' := []) (m' := wuI m 28 t (((x * 2) + y).toNat) 0) (o := some ((t < 10 ∧ 0 ≤ (x * 2) + y ∧ (x * 2) + y < ((14 : Nat) : Int) ∧ 0 ≤ (0 : Int) ∧ (0 : Int) ≤ 1))) rfl (show (t < 10 ∧ 0 ≤ (x * 2) + y ∧ (x * 2) + y < ((14 : Nat) : Int) ∧ 0 ≤ (0 : Int) ∧ (0 : Int) ≤ 1) from by omega) ?_
        obtain ⟨m7, hm7⟩ : ∃ zq9 : wm, zq9 = wuI m 28 t (((x * 2) + y).toNat) 0 := ⟨_, rfl⟩
        rw [← hm7]
        have hGm7 : zB c m7 := by rw [hm7]; exact zB_wI rfl (show 0 ≤ (0 : Int) ∧ (0 : Int) ≤ 1 from by omega) hGm
        have hFm7 : zfr (fun k i j => (k = 1 ∧ i = (101 + 7 * t + x.toNat) ∧ j = 1) ∨ (k = 2 ∧ i = (101 + 7 * t + x.toNat)) ∨ (k = 29 ∧ i = t ∧ j = x.toNat) ∨ (k = 28 ∧ i = t ∧ 2 * x.toNat ≤ j ∧ j ≤ 2 * x.toNat + 1)) m0 m7 := by rw [hm7]; exact zfr_wI hFm (show (28 = 1 ∧ t = (101 + 7 * t + x.toNat) ∧ (((x * 2) + y).toNat) = 1) ∨ (28 = 2 ∧ t = (101 + 7 * t + x.toNat)) ∨ (28 = 29 ∧ t = t ∧ (((x * 2) + y).toNat) = x.toNat) ∨ (28 = 28 ∧ t = t ∧ 2 * x.toNat ≤ (((x * 2) + y).toNat) ∧ (((x * 2) + y).toNat) ≤ 2 * x.toNat + 1) from Or.inr (Or.inr (Or.inr ((show (28 = 28 ∧ t = t ∧ 2 * x.toNat ≤ (((x * 2) + y).toNat) ∧ (((x * 2) + y).toNat) ≤ 2 * x.toNat + 1) from by omega)))))
        have s8 : m7.1 28 t (((x * 2) + y).toNat) = (0 : Int) := by rw [hm7]; exact wuI_self
        have w9 : m7.1 1 ((101 + 7 * t + x.toNat)) 1 = m.1 1 ((101 + 7 * t + x.toNat)) 1 := by rw [hm7]; rfl
        have w10 : m7.1 29 t x.toNat = m.1 29 t x.toNat := by rw [hm7]; rfl
        refine ww_go 2 (pc' := 19) (L' := [(3, .inl (y + 1)), (0, .inr (.inr (.inl (some (26, t))))), (1, .inl x), (2, .inr (.inr (.inl (some (1, s)))))]) (st' := []) (m' := m7) (o := none) rfl trivial ?_
        refine ww_sub (L := [(0, .inr (.inr (.inl (some (26, t))))), (1, .inl x), (2, .inr (.inr (.inl (some (1, s))))), (3, .inl (y + 1))]) ⟨rfl, rfl, rfl, rfl, trivial⟩ rfl rfl ?_
        exact (ih _ (by omega)) (y + 1) m7 rfl (zB_mono hGm7 (by omega)) hFm7 (by omega) (by omega) (by exact ⟨fun _ => (Decidable.em (y = 0)).elim (fun z => (by rw [show 2 * x.toNat = (x * 2 + y).toNat from by omega]; omega)) (fun z => (by rw [hm7, wuI_nj (by omega)]; exact hs.1 (by omega))), fun _ => (by rw [show 2 * x.toNat + 1 = (x * 2 + y).toNat from by omega]; split <;> omega)⟩)
      · show wW (zK sc) zM144 44 [(0, .inr (.inr (.inl (some (26, t))))), (1, .inl x), (2, .inr (.inr (.inl (some (1, s))))), (3, .inl y)] [.inl ((x * 2) + y), .inr (.inr (.inl (some (28, t))))] _ _ _
        refine ww_go 3 (pc' := 50) (L' := [(0, .inr (.inr (.inl (some (26, t))))), (1, .inl x), (2, .inr (.inr (.inl (some (1, s))))), (3, .inl y)]) (st' := []) (m' := wuI m 28 t (((x * 2) + y).toNat) 1) (o := some ((t < 10 ∧ 0 ≤ (x * 2) + y ∧ (x * 2) + y < ((14 : Nat) : Int) ∧ 0 ≤ (1 : Int) ∧ (1 : Int) ≤ 1))) rfl (show (t < 10 ∧ 0 ≤ (x * 2) + y ∧ (x * 2) + y < ((14 : Nat) : Int) ∧ 0 ≤ (1 : Int) ∧ (1 : Int) ≤ 1) from by omega) ?_
        obtain ⟨m11, hm11⟩ : ∃ zq9 : wm, zq9 = wuI m 28 t (((x * 2) + y).toNat) 1 := ⟨_, rfl⟩
        rw [← hm11]
        have hGm11 : zB c m11 := by rw [hm11]; exact zB_wI rfl (show 0 ≤ (1 : Int) ∧ (1 : Int) ≤ 1 from by omega) hGm
        have hFm11 : zfr (fun k i j => (k = 1 ∧ i = (101 + 7 * t + x.toNat) ∧ j = 1) ∨ (k = 2 ∧ i = (101 + 7 * t + x.toNat)) ∨ (k = 29 ∧ i = t ∧ j = x.toNat) ∨ (k = 28 ∧ i = t ∧ 2 * x.toNat ≤ j ∧ j ≤ 2 * x.toNat + 1)) m0 m11 := by rw [hm11]; exact zfr_wI hFm (show (28 = 1 ∧ t = (101 + 7 * t + x.toNat) ∧ (((x * 2) + y).toNat) = 1) ∨ (28 = 2 ∧ t = (101 + 7 * t + x.toNat)) ∨ (28 = 29 ∧ t = t ∧ (((x * 2) + y).toNat) = x.toNat) ∨ (28 = 28 ∧ t = t ∧ 2 * x.toNat ≤ (((x * 2) + y).toNat) ∧ (((x * 2) + y).toNat) ≤ 2 * x.toNat + 1) from Or.inr (Or.inr (Or.inr ((show (28 = 28 ∧ t = t ∧ 2 * x.toNat ≤ (((x * 2) + y).toNat) ∧ (((x * 2) + y).toNat) ≤ 2 * x.toNat + 1) from by omega)))))
        have s12 : m11.1 28 t (((x * 2) + y).toNat) = (1 : Int) := by rw [hm11]; exact wuI_self
        have w13 : m11.1 1 ((101 + 7 * t + x.toNat)) 1 = m.1 1 ((101 + 7 * t + x.toNat)) 1 := by rw [hm11]; rfl
        have w14 : m11.1 29 t x.toNat = m.1 29 t x.toNat := by rw [hm11]; rfl
        refine ww_go 2 (pc' := 19) (L' := [(3, .inl (y + 1)), (0, .inr (.inr (.inl (some (26, t))))), (1, .inl x), (2, .inr (.inr (.inl (some (1, s)))))]) (st' := []) (m' := m11) (o := none) rfl trivial ?_
        refine ww_sub (L := [(0, .inr (.inr (.inl (some (26, t))))), (1, .inl x), (2, .inr (.inr (.inl (some (1, s))))), (3, .inl (y + 1))]) ⟨rfl, rfl, rfl, rfl, trivial⟩ rfl rfl ?_
        exact (ih _ (by omega)) (y + 1) m11 rfl (zB_mono hGm11 (by omega)) hFm11 (by omega) (by omega) (by exact ⟨fun _ => (Decidable.em (y = 0)).elim (fun z => (by rw [show 2 * x.toNat = (x * 2 + y).toNat from by omega]; omega)) (fun z => (by rw [hm11, wuI_nj (by omega)]; exact hs.1 (by omega))), fun _ => (by rw [show 2 * x.toNat + 1 = (x * 2 + y).toNat from by omega]; split <;> omega)⟩)
set_option maxRecDepth 8000 in
/-- Version.holdCopy -/
theorem yt144 {sc : xSc} {n : Nat × Nat} {m0 : wm} {c : Int} (hc : 0 ≤ c ∧ c ≤ 1000000) (x : Int) (t : Nat) (s : Nat) (hG : zB c m0) (h0 : t < 10 ∧ 0 ≤ x ∧ x ≤ 6 ∧ 101 ≤ s ∧ s < 171 ∧ s ≠ (101 + 7 * t + x.toNat)) : wX (zK sc) 144 [.inr (.inr (.inl (some (26, t)))), .inl x, .inr (.inr (.inl (some (1, s))))] n m0 (wr (fun vv n1 m1 => vv = none ∧ n = n1 ∧ zB c m1 ∧ zfr (fun k i j => (k = 1 ∧ i = (101 + 7 * t + x.toNat) ∧ j = 1) ∨ (k = 2 ∧ i = (101 + 7 * t + x.toNat)) ∨ (k = 29 ∧ i = t ∧ j = x.toNat) ∨ (k = 28 ∧ i = t ∧ 2 * x.toNat ≤ j ∧ j ≤ 2 * x.toNat + 1)) m0 m1 ∧ (zHc m1 t x.toNat (m0.1 1 s 1)))) := by
  refine wX_of (N := zM144) rfl (Nat.le_of_ble_eq_true rfl) ?_
  show wW (zK sc) zM144 0 [(0, .inr (.inr (.inl (some (26, t))))), (1, .inl x), (2, .inr (.inr (.inl (some (1, s)))))] [] n m0 _
  have hF : zfr (fun k i j => (k = 1 ∧ i = (101 + 7 * t + x.toNat) ∧ j = 1) ∨ (k = 2 ∧ i = (101 + 7 * t + x.toNat)) ∨ (k = 29 ∧ i = t ∧ j = x.toNat) ∨ (k = 28 ∧ i = t ∧ 2 * x.toNat ≤ j ∧ j ≤ 2 * x.toNat + 1)) m0 m0 := zfr_rf
  have zl8 := zlim_le s
  have zs0 : 0 ≤ m0.1 1 s 1 ∧ m0.1 1 s 1 ≤ zlim s := hG.1 1 _ rfl s 1
  refine ww_go 5 (pc' := 7) (L' := [(0, .inr (.inr (.inl (some (26, t))))), (1, .inl x), (2, .inr (.inr (.inl (some (1, s)))))]) (st' := [.inr (.inr (.inl (some (1, s)))), .inr (.inr (.inl (some (1, 101 + 7 * t + x.toNat))))]) (m' := m0) (o := some ((t < 10) ∧ (t < 10 ∧ 0 ≤ x ∧ x < ((7 : Nat) : Int)))) rfl (show (t < 10) ∧ (t < 10 ∧ 0 ≤ x ∧ x < ((7 : Nat) : Int)) from by omega) ?_
  refine ww_call (vs := [.inr (.inr (.inl (some (1, 101 + 7 * t + x.toNat)))), .inr (.inr (.inl (some (1, s))))]) (r := []) (p := 101 + 7 * t + x.toNat < 171) rfl rfl rfl rfl (show 101 + 7 * t + x.toNat < 171 from by omega) (zs32 (c := c) (by omega) (101 + 7 * t + x.toNat) s hG (by omega)) ?_
  rintro _ _ m3 ⟨rfl, rfl, hGm3, hEm3, hr2⟩
  have hFm3 : zfr (fun k i j => (k = 1 ∧ i = (101 + 7 * t + x.toNat) ∧ j = 1) ∨ (k = 2 ∧ i = (101 + 7 * t + x.toNat)) ∨ (k = 29 ∧ i = t ∧ j = x.toNat) ∨ (k = 28 ∧ i = t ∧ 2 * x.toNat ≤ j ∧ j ≤ 2 * x.toNat + 1)) m0 m3 := zfr_tr hF hEm3 (fun k i j z => Or.elim z (fun z => Or.inl z) (fun z => Or.inr (Or.inl z)))
  have w4 : m3.1 29 t x.toNat = m0.1 29 t x.toNat := (hEm3 29 t x.toNat (show ¬ ((29 = 1 ∧ t = (101 + 7 * t + x.toNat) ∧ x.toNat = 1) ∨ (29 = 2 ∧ t = (101 + 7 * t + x.toNat))) from by omega)).1
  show wW (zK sc) zM144 10 [(0, .inr (.inr (.inl (some (26, t))))), (1, .inl x), (2, .inr (.inr (.inl (some (1, s)))))] [] _ _ _
  have zlm : zlim (101 + 7 * t + x.toNat) = 104 := zlim_e (by omega) (by omega)
  refine ww_go 5 (pc' := 17) (L' := [(0, .inr (.inr (.inl (some (26, t))))), (1, .inl x), (2, .inr (.inr (.inl (some (1, s)))))]) (st' := []) (m' := wuI m3 29 t x.toNat 1) (o := some ((t < 10) ∧ (t < 10 ∧ 0 ≤ x ∧ x < ((7 : Nat) : Int) ∧ 0 ≤ (1 : Int) ∧ (1 : Int) ≤ 1))) rfl (show (t < 10) ∧ (t < 10 ∧ 0 ≤ x ∧ x < ((7 : Nat) : Int) ∧ 0 ≤ (1 : Int) ∧ (1 : Int) ≤ 1) from by omega) ?_
  obtain ⟨m5, hm5⟩ : ∃ zq9 : wm, zq9 = wuI m3 29 t x.toNat 1 := ⟨_, rfl⟩
  rw [← hm5]
  have hGm5 : zB c m5 := by rw [hm5]; exact zB_wI rfl (show 0 ≤ (1 : Int) ∧ (1 : Int) ≤ 1 from by omega) hGm3
  have hFm5 : zfr (fun k i j => (k = 1 ∧ i = (101 + 7 * t + x.toNat) ∧ j = 1) ∨ (k = 2 ∧ i = (101 + 7 * t + x.toNat)) ∨ (k = 29 ∧ i = t ∧ j = x.toNat) ∨ (k = 28 ∧ i = t ∧ 2 * x.toNat ≤ j ∧ j ≤ 2 * x.toNat + 1)) m0 m5 := by rw [hm5]; exact zfr_wI hFm3 (show (29 = 1 ∧ t = (101 + 7 * t + x.toNat) ∧ x.toNat = 1) ∨ (29 = 2 ∧ t = (101 + 7 * t + x.toNat)) ∨ (29 = 29 ∧ t = t ∧ x.toNat = x.toNat) ∨ (29 = 28 ∧ t = t ∧ 2 * x.toNat ≤ x.toNat ∧ x.toNat ≤ 2 * x.toNat + 1) from Or.inr (Or.inr (Or.inl ((show (29 = 29 ∧ t = t ∧ x.toNat = x.toNat) from by omega)))))
  have s6 : m5.1 29 t x.toNat = (1 : Int) := by rw [hm5]; exact wuI_self
  have w7 : m5.1 1 ((101 + 7 * t + x.toNat)) 1 = m3.1 1 ((101 + 7 * t + x.toNat)) 1 := by rw [hm5]; rfl
  refine ww_go 2 (pc' := 19) (L' := [(3, .inl 0), (0, .inr (.inr (.inl (some (26, t))))), (1, .inl x), (2, .inr (.inr (.inl (some (1, s)))))]) (st' := []) (m' := m5) (o := none) rfl trivial ?_
  refine ww_sub (L := [(0, .inr (.inr (.inl (some (26, t))))), (1, .inl x), (2, .inr (.inr (.inl (some (1, s))))), (3, .inl 0)]) ⟨rfl, rfl, rfl, rfl, trivial⟩ rfl rfl ?_
  exact (yt144_l19 hc x t s hG h0 _) 0 m5 rfl (zB_mono hGm5 (by omega)) hFm5 (by omega) (by omega) (by exact ⟨fun z => absurd z (by omega), fun z => absurd z (by omega)⟩)
