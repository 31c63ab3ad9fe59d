set_option maxRecDepth 8000 in
/-- Receiver.rowsOf -/
theorem yt100 {sc : xSc} {n : Nat × Nat} {m : wm} {c : Int} (hc : 0 ≤ c ∧ c ≤ 1000000) (x : Int) (y : Int) (z : Int) (b : Int) (hG : zB c m) (h0 : 0 ≤ x ∧ x ≤ 1 ∧ 0 ≤ y ∧ y ≤ 65535 ∧ 0 ≤ z ∧ z ≤ 6 ∧ 0 ≤ b ∧ b ≤ 1) : wX (zK sc) 100 [.inr (.inr (.inl (some (19, 0)))), .inl x, .inl y, .inl z, .inl b] n m (wr (fun vv n1 m1 => ∃ r : Int, vv = some (.inl r) ∧ n = n1 ∧ m = m1 ∧ (0 ≤ r ∧ r ≤ 24 ∧ zRof m x y z b r))) := by
  refine wX_of (N := zM100) rfl (Nat.le_of_ble_eq_true rfl) ?_
  show wW (zK sc) zM100 0 [(0, .inr (.inr (.inl (some (19, 0))))), (1, .inl x), (2, .inl y), (3, .inl z), (4, .inl b)] [] n m _
  refine ww_go 3 (pc' := 3) (L' := [(0, .inr (.inr (.inl (some (19, 0))))), (1, .inl x), (2, .inl y), (3, .inl z), (4, .inl b)]) (st' := [.inl y, .inl x, .inr (.inr (.inl (some (19, 0))))]) (m' := m) (o := none) rfl trivial ?_
  refine ww_call (vs := [.inr (.inr (.inl (some (19, 0)))), .inl x, .inl y]) (r := []) (p := 0 < 1) rfl rfl rfl rfl (show 0 < 1 from by omega) (yt79 (c := c) (by omega) x y hG (by omega)) ?_
  rintro _ _ _ ⟨r1, rfl, rfl, rfl, hr2⟩
  rcases hr2 with ⟨rfl, hr4⟩ | ⟨e3, rfl, hr4⟩
  · show wW (zK sc) zM100 6 [(0, .inr (.inr (.inl (some (19, 0))))), (1, .inl x), (2, .inl y), (3, .inl z), (4, .inl b)] [.inr (.inr (.inl none))] _ _ _
    refine ww_go 2 (pc' := 10) (L' := [(5, .inr (.inr (.inl none))), (0, .inr (.inr (.inl (some (19, 0))))), (1, .inl x), (2, .inl y), (3, .inl z), (4, .inl b)]) (st' := [.inr (.inr (.inl none))]) (m' := m) (o := none) rfl trivial ?_
    refine ww_nn (t := 15) rfl rfl (fun zz9 h => by cases h) (fun h => ?_)
    show wW (zK sc) zM100 13 [(5, .inr (.inr (.inl none))), (0, .inr (.inr (.inl (some (19, 0))))), (1, .inl x), (2, .inl y), (3, .inl z), (4, .inl b)] [] _ _ _
    refine ww_go 1 (pc' := 14) (L' := [(5, .inr (.inr (.inl none))), (0, .inr (.inr (.inl (some (19, 0))))), (1, .inl x), (2, .inl y), (3, .inl z), (4, .inl b)]) (st' := [.inl 0]) (m' := m) (o := none) rfl trivial ?_
    exact ww_rI rfl rfl ⟨_, rfl, rfl, rfl, by exact ⟨by omega, by omega, Or.inl ⟨hr4, rfl⟩⟩⟩
  · show wW (zK sc) zM100 6 [(0, .inr (.inr (.inl (some (19, 0))))), (1, .inl x), (2, .inl y), (3, .inl z), (4, .inl b)] [.inr (.inr (.inl (some (26, e3))))] _ _ _
    refine ww_go 2 (pc' := 10) (L' := [(5, .inr (.inr (.inl (some (26, e3))))), (0, .inr (.inr (.inl (some (19, 0))))), (1, .inl x), (2, .inl y), (3, .inl z), (4, .inl b)]) (st' := [.inr (.inr (.inl (some (26, e3))))]) (m' := m) (o := none) rfl trivial ?_
    refine ww_nn (t := 15) rfl rfl (fun zz9 h => ?_) (fun h => by cases h)
    show wW (zK sc) zM100 15 [(5, .inr (.inr (.inl (some (26, e3))))), (0, .inr (.inr (.inl (some (19, 0))))), (1, .inl x), (2, .inl y), (3, .inl z), (4, .inl b)] [] _ _ _
    refine ww_go 3 (pc' := 20) (L' := [(5, .inr (.inr (.inl (some (26, e3))))), (0, .inr (.inr (.inl (some (19, 0))))), (1, .inl x), (2, .inl y), (3, .inl z), (4, .inl b)]) (st' := [.inl b, .inl z, .inr (.inr (.inl (some (26, e3))))]) (m' := m) (o := none) rfl trivial ?_
    refine ww_call (vs := [.inr (.inr (.inl (some (26, e3)))), .inl z, .inl b]) (r := []) (p := e3 < 10) rfl rfl rfl rfl (show e3 < 10 from by omega) (yt150 (c := c) (by omega) z b e3 hG (by omega)) ?_
    rintro _ _ _ ⟨r5, rfl, rfl, rfl, hr6⟩
    show wW (zK sc) zM100 23 [(5, .inr (.inr (.inl (some (26, e3))))), (0, .inr (.inr (.inl (some (19, 0))))), (1, .inl x), (2, .inl y), (3, .inl z), (4, .inl b)] [.inl r5] _ _ _
    refine ww_if (t := 29) rfl rfl (by omega) (fun (h7 : r5 = 0) => ?_) (fun (h7 : ¬ (r5 = 0)) => ?_)
    · show wW (zK sc) zM100 29 [(5, .inr (.inr (.inl (some (26, e3))))), (0, .inr (.inr (.inl (some (19, 0))))), (1, .inl x), (2, .inl y), (3, .inl z), (4, .inl b)] [] _ _ _
      refine ww_go 2 (pc' := 31) (L' := [(5, .inr (.inr (.inl (some (26, e3))))), (0, .inr (.inr (.inl (some (19, 0))))), (1, .inl x), (2, .inl y), (3, .inl z), (4, .inl b)]) (st' := [.inl y, .inl x]) (m' := m) (o := none) rfl trivial ?_
      refine ww_call (vs := [.inl x, .inl y]) (r := []) (p := True) rfl rfl rfl rfl trivial (yt113 x y (by omega)) ?_
      rintro _ _ _ ⟨r8, rfl, rfl, rfl, hr9⟩
      show wW (zK sc) zM100 34 [(5, .inr (.inr (.inl (some (26, e3))))), (0, .inr (.inr (.inl (some (19, 0))))), (1, .inl x), (2, .inl y), (3, .inl z), (4, .inl b)] [.inl r8] _ _ _
      refine ww_go 2 (pc' := 37) (L' := [(5, .inr (.inr (.inl (some (26, e3))))), (0, .inr (.inr (.inl (some (19, 0))))), (1, .inl x), (2, .inl y), (3, .inl z), (4, .inl b)]) (st' := [.inl b, .inl z, .inl r8]) (m' := m) (o := none) rfl trivial ?_
      refine ww_call (vs := [.inl r8, .inl z, .inl b]) (r := []) (p := True) rfl rfl rfl rfl trivial (yt111 r8 z b (by omega)) ?_
      rintro _ _ _ ⟨r10, rfl, rfl, rfl, hr11⟩
      show wW (zK sc) zM100 40 [(5, .inr (.inr (.inl (some (26, e3))))), (0, .inr (.inr (.inl (some (19, 0))))), (1, .inl x), (2, .inl y), (3, .inl z), (4, .inl b)] [.inl r10] _ _ _
      refine ww_go 5 (pc' := 50) (L' := [(6, .inl r10), (5, .inr (.inr (.inl (some (26, e3))))), (0, .inr (.inr (.inl (some (19, 0))))), (1, .inl x), (2, .inl y), (3, .inl z), (4, .inl b)]) (st' := [.inl r10, .inl r10, .inr (.inr (.inl (some (22, 0))))]) (m' := m) (o := some ((0 < 1))) rfl (show (0 < 1) from by omega) ?_
      refine ww_call (vs := [.inr (.inr (.inl (some (22, 0)))), .inl r10, .inl r10]) (r := []) (p := 0 < 1) rfl rfl rfl rfl (show 0 < 1 from by omega) (yt116 (c := c) (by omega) r10 r10 hG (by omega)) ?_
      rintro _ _ _ ⟨r12, rfl, rfl, rfl, hr13⟩
      show wW (zK sc) zM100 53 [(6, .inl r10), (5, .inr (.inr (.inl (some (26, e3))))), (0, .inr (.inr (.inl (some (19, 0))))), (1, .inl x), (2, .inl y), (3, .inl z), (4, .inl b)] [.inl r12] _ _ _
      exact ww_rI rfl rfl ⟨_, rfl, rfl, rfl, by exact ⟨by omega, by omega, Or.inr ⟨_, ⟨by omega, by omega, hr4.2.2.2⟩, Or.inr ⟨by omega, (by have z9 := hr13.2; rw [show r10 = 16 * (2 * y + x) + 2 * z + b from by omega] at z9; exact z9)⟩⟩⟩⟩
    · show wW (zK sc) zM100 26 [(5, .inr (.inr (.inl (some (26, e3))))), (0, .inr (.inr (.inl (some (19, 0))))), (1, .inl x), (2, .inl y), (3, .inl z), (4, .inl b)] [] _ _ _
      refine ww_go 1 (pc' := 28) (L' := [(5, .inr (.inr (.inl (some (26, e3))))), (0, .inr (.inr (.inl (some (19, 0))))), (1, .inl x), (2, .inl y), (3, .inl z), (4, .inl b)]) (st' := [.inl 8]) (m' := m) (o := none) rfl trivial ?_
      exact ww_rI rfl rfl ⟨_, rfl, rfl, rfl, by exact ⟨by omega, by omega, Or.inr ⟨_, ⟨by omega, by omega, hr4.2.2.2⟩, Or.inl ⟨by omega, rfl⟩⟩⟩⟩
