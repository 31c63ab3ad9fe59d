set_option maxRecDepth 8000 in
/-- Rows.owner -/
theorem yt113 {sc : xSc} {n : Nat × Nat} {m : wm} (f : Int) (x : Int) (h0 : 0 ≤ f ∧ f ≤ 1 ∧ 0 ≤ x ∧ x ≤ 65535) : wX (zK sc) 113 [.inl f, .inl x] n m (wr (fun vv n1 m1 => ∃ r : Int, vv = some (.inl r) ∧ n = n1 ∧ m = m1 ∧ (r = 2 * x + f))) := by
  refine wX_of (N := zM113) rfl (Nat.le_of_ble_eq_true rfl) ?_
  show wW (zK sc) zM113 0 [(0, .inl f), (1, .inl x)] [] n m _
  have t1 := wshl_rg x 1
  have t2 := wshl_k1 (X := x)
  have t3 := wor_rg (wshl x 1) f
  have t4 : (0 ≤ wshl x 1 ∧ wshl x 1 ≤ 131071 ∧ 0 ≤ f ∧ f ≤ 131071) → (0 ≤ wor (wshl x 1) f ∧ wor (wshl x 1) f ≤ 131071) := fun z => wor_131071 ⟨z.1, z.2.1⟩ z.2.2
  refine ww_go 5 (pc' := 5) (L' := [(0, .inl f), (1, .inl x)]) (st' := [.inl (wor (wshl x 1) f)]) (m' := m) (o := none) rfl trivial ?_
  exact ww_rI rfl rfl ⟨_, rfl, rfl, rfl, by (rw [show wshl x 1 = 2 * x from by omega]; exact wor_1 (by omega) (by omega))⟩
set_option maxRecDepth 8000 in
/-- Rows.firstKey -/
theorem yt108 {sc : xSc} {n : Nat × Nat} {m : wm} (x : Int) (h0 : 0 ≤ x ∧ x ≤ 250000) : wX (zK sc) 108 [.inl x] n m (wr (fun vv n1 m1 => ∃ r : Int, vv = some (.inl r) ∧ n = n1 ∧ m = m1 ∧ (r = 16 * x))) := by
  refine wX_of (N := zM108) rfl (Nat.le_of_ble_eq_true rfl) ?_
  show wW (zK sc) zM108 0 [(0, .inl x)] [] n m _
  have t1 := wshl_rg x 4
  have t2 := wshl_k4 (X := x)
  refine ww_go 3 (pc' := 3) (L' := [(0, .inl x)]) (st' := [.inl (wshl x 4)]) (m' := m) (o := none) rfl trivial ?_
  exact ww_rI rfl rfl ⟨_, rfl, rfl, rfl, by omega⟩
set_option maxRecDepth 8000 in
/-- Rows.lastKey -/
theorem yt112 {sc : xSc} {n : Nat × Nat} {m : wm} (x : Int) (h0 : 0 ≤ x ∧ x ≤ 250000) : wX (zK sc) 112 [.inl x] n m (wr (fun vv n1 m1 => ∃ r : Int, vv = some (.inl r) ∧ n = n1 ∧ m = m1 ∧ (r = 16 * x + 15))) := by
  refine wX_of (N := zM112) rfl (Nat.le_of_ble_eq_true rfl) ?_
  show wW (zK sc) zM112 0 [(0, .inl x)] [] n m _
  have t1 := wshl_rg (x + 1) 4
  have t2 := wshl_k4 (X := x + 1)
  refine ww_go 7 (pc' := 7) (L' := [(0, .inl x)]) (st' := [.inl ((wshl (x + 1) 4) - 1)]) (m' := m) (o := none) rfl trivial ?_
  exact ww_rI rfl rfl ⟨_, rfl, rfl, rfl, by omega⟩
set_option maxRecDepth 8000 in
/-- Rows.key -/
theorem yt111 {sc : xSc} {n : Nat × Nat} {m : wm} (x : Int) (y : Int) (b : Int) (h0 : 0 ≤ x ∧ x ≤ 131071 ∧ 0 ≤ y ∧ y ≤ 6 ∧ 0 ≤ b ∧ b ≤ 1) : wX (zK sc) 111 [.inl x, .inl y, .inl b] n m (wr (fun vv n1 m1 => ∃ r : Int, vv = some (.inl r) ∧ n = n1 ∧ m = m1 ∧ (r = 16 * x + 2 * y + b))) := by
  refine wX_of (N := zM111) rfl (Nat.le_of_ble_eq_true rfl) ?_
  show wW (zK sc) zM111 0 [(0, .inl x), (1, .inl y), (2, .inl b)] [] n m _
  have t1 := wshl_rg x 4
  have t2 := wshl_k4 (X := x)
  refine ww_go 9 (pc' := 9) (L' := [(0, .inl x), (1, .inl y), (2, .inl b)]) (st' := [.inl (((wshl x 4) + (y * 2)) + b)]) (m' := m) (o := none) rfl trivial ?_
  exact ww_rI rfl rfl ⟨_, rfl, rfl, rfl, by omega⟩
set_option maxRecDepth 8000 in
/-- Rows.used -/
theorem yt118 {sc : xSc} {n : Nat × Nat} {m : wm} {c : Int} (hc : 0 ≤ c ∧ c ≤ 1000000)  (hG : zB c m) : wX (zK sc) 118 [.inr (.inr (.inl (some (22, 0))))] n m (wr (fun vv n1 m1 => ∃ r : Int, vv = some (.inl r) ∧ n = n1 ∧ m = m1 ∧ (r = m.1 22 0 3 ∧ 0 ≤ r ∧ r ≤ 24))) := by
  refine wX_of (N := zM118) rfl (Nat.le_of_ble_eq_true rfl) ?_
  show wW (zK sc) zM118 0 [(0, .inr (.inr (.inl (some (22, 0)))))] [] n m _
  have b1 : 0 ≤ m.1 22 0 3 ∧ m.1 22 0 3 ≤ 24 := hG.1 22 _ rfl _ _
  refine ww_go 2 (pc' := 4) (L' := [(0, .inr (.inr (.inl (some (22, 0)))))]) (st' := [.inl (m.1 22 0 3)]) (m' := m) (o := some ((0 < 1))) rfl (show (0 < 1) from by omega) ?_
  exact ww_rI rfl rfl ⟨_, rfl, rfl, rfl, by exact ⟨rfl, by omega, by omega⟩⟩
set_option maxRecDepth 8000 in
/-- Rows.isFull -/
theorem yt110 {sc : xSc} {n : Nat × Nat} {m : wm} {c : Int} (hc : 0 ≤ c ∧ c ≤ 1000000)  (hG : zB c m) : wX (zK sc) 110 [.inr (.inr (.inl (some (22, 0))))] n m (wr (fun vv n1 m1 => ∃ r : Int, vv = some (.inl r) ∧ n = n1 ∧ m = m1 ∧ ((r = 1 ∧ m.1 22 0 3 = 24) ∨ (r = 0 ∧ m.1 22 0 3 ≤ 23)))) := by
  refine wX_of (N := zM110) rfl (Nat.le_of_ble_eq_true rfl) ?_
  show wW (zK sc) zM110 0 [(0, .inr (.inr (.inl (some (22, 0)))))] [] n m _
  have b1 : 0 ≤ m.1 22 0 3 ∧ m.1 22 0 3 ≤ 24 := hG.1 22 _ rfl _ _
  refine ww_go 3 (pc' := 6) (L' := [(0, .inr (.inr (.inl (some (22, 0)))))]) (st' := [.inl 24, .inl (m.1 22 0 3)]) (m' := m) (o := some ((0 < 1))) rfl (show (0 < 1) from by omega) ?_
  refine ww_ic (t := 13) rfl rfl (by omega) (fun (h2 : m.1 22 0 3 < 24) => ?_) (fun (h2 : ¬ (m.1 22 0 3 < 24)) => ?_)
  · show wW (zK sc) zM110 13 [(0, .inr (.inr (.inl (some (22, 0)))))] [] _ _ _
    refine ww_go 1 (pc' := 14) (L' := [(0, .inr (.inr (.inl (some (22, 0)))))]) (st' := [.inl 0]) (m' := m) (o := none) rfl trivial ?_
    exact ww_rB rfl rfl (by omega) ⟨_, rfl, rfl, rfl, by omega⟩
  · show wW (zK sc) zM110 9 [(0, .inr (.inr (.inl (some (22, 0)))))] [] _ _ _
    refine ww_go 2 (pc' := 14) (L' := [(0, .inr (.inr (.inl (some (22, 0)))))]) (st' := [.inl 1]) (m' := m) (o := none) rfl trivial ?_
    exact ww_rB rfl rfl (by omega) ⟨_, rfl, rfl, rfl, by omega⟩
set_option maxRecDepth 8000 in
/-- Rows.ownerAt -/
theorem yt114 {sc : xSc} {n : Nat × Nat} {m : wm} {c : Int} (hc : 0 ≤ c ∧ c ≤ 1000000) (x : Int) (hG : zB c m) (h0 : -2147483648 ≤ x ∧ x ≤ 2147483647) : wX (zK sc) 114 [.inr (.inr (.inl (some (22, 0)))), .inl x] n m (wr (fun vv n1 m1 => ∃ r : Int, vv = some (.inl r) ∧ n = n1 ∧ m = m1 ∧ ((0 ≤ r ∧ r ≤ 250000) ∧ (0 ≤ x → x < m.1 22 0 3 → r = m.1 23 0 x.toNat / 16)))) := by
  refine wX_of (N := zM114) rfl (Nat.le_of_ble_eq_true rfl) ?_
  show wW (zK sc) zM114 0 [(0, .inr (.inr (.inl (some (22, 0))))), (1, .inl x)] [] n m _
  refine ww_go 1 (pc' := 1) (L' := [(0, .inr (.inr (.inl (some (22, 0))))), (1, .inl x)]) (st' := [.inl x]) (m' := m) (o := none) rfl trivial ?_
  refine ww_if (t := 23) rfl rfl (by omega) (fun (h1 : x < 0) => ?_) (fun (h1 : ¬ (x < 0)) => ?_)
  · show wW (zK sc) zM114 23 [(0, .inr (.inr (.inl (some (22, 0))))), (1, .inl x)] [] _ _ _
    refine ww_go 1 (pc' := 24) (L' := [(0, .inr (.inr (.inl (some (22, 0))))), (1, .inl x)]) (st' := [.inl 0]) (m' := m) (o := none) rfl trivial ?_
    exact ww_rI rfl rfl ⟨_, rfl, rfl, rfl, by omega⟩
  · show wW (zK sc) zM114 4 [(0, .inr (.inr (.inl (some (22, 0))))), (1, .inl x)] [] _ _ _
    have b2 : 0 ≤ m.1 22 0 3 ∧ m.1 22 0 3 ≤ 24 := hG.1 22 _ rfl _ _
    refine ww_go 3 (pc' := 9) (L' := [(0, .inr (.inr (.inl (some (22, 0))))), (1, .inl x)]) (st' := [.inl (m.1 22 0 3), .inl x]) (m' := m) (o := some ((0 < 1))) rfl (show (0 < 1) from by omega) ?_
    refine ww_ic (t := 23) rfl rfl (by omega) (fun (h3 : m.1 22 0 3 ≤ x) => ?_) (fun (h3 : ¬ (m.1 22 0 3 ≤ x)) => ?_)
    · show wW (zK sc) zM114 23 [(0, .inr (.inr (.inl (some (22, 0))))), (1, .inl x)] [] _ _ _
      refine ww_go 1 (pc' := 24) (L' := [(0, .inr (.inr (.inl (some (22, 0))))), (1, .inl x)]) (st' := [.inl 0]) (m' := m) (o := none) rfl trivial ?_
      exact ww_rI rfl rfl ⟨_, rfl, rfl, rfl, by omega⟩
    · show wW (zK sc) zM114 12 [(0, .inr (.inr (.inl (some (22, 0))))), (1, .inl x)] [] _ _ _
      have b4 : 0 ≤ m.1 23 0 x.toNat ∧ m.1 23 0 x.toNat ≤ 4000000 := hG.1 23 _ rfl _ _
      have t5 := wshr_rg (m.1 23 0 x.toNat) 4
      have t6 := wshr_k4 (X := m.1 23 0 x.toNat)
      refine ww_go 7 (pc' := 24) (L' := [(0, .inr (.inr (.inl (some (22, 0))))), (1, .inl x)]) (st' := [.inl (wshr (m.1 23 0 x.toNat) 4)]) (m' := m) (o := some ((0 < 1) ∧ (0 < 1 ∧ 0 ≤ x ∧ x < ((24 : Nat) : Int)))) rfl (show (0 < 1) ∧ (0 < 1 ∧ 0 ≤ x ∧ x < ((24 : Nat) : Int)) from by omega) ?_
      exact ww_rI rfl rfl ⟨_, rfl, rfl, rfl, by omega⟩
set_option maxRecDepth 8000 in
theorem yt116_l5 {sc : xSc} {n : Nat × Nat} {m : wm} {c : Int} (hc : 0 ≤ c ∧ c ≤ 1000000) (x : Int) (y : Int) (hG : zB c m) (h0 : -2147483648 ≤ x ∧ x ≤ 2147483647 ∧ -2147483648 ≤ y ∧ y ≤ 2147483647) : ∀ (d : Nat), ∀ (z : Int) (w : Int), (24 - w).toNat = d → (0 ≤ w ∧ w ≤ m.1 22 0 3 ∧ 0 ≤ z ∧ z ≤ w) → (z = ((zct (zIn m x y) w.toNat : Nat) : Int)) →  wW (zK sc) zM116 5 [(0, .inr (.inr (.inl (some (22, 0))))), (1, .inl x), (2, .inl y), (3, .inl z), (4, .inl w)] [] n m (wr (fun vv n1 m1 => ∃ r : Int, vv = some (.inl r) ∧ n = n1 ∧ m = m1 ∧ ((0 ≤ r ∧ r ≤ 24) ∧ r = ((zct (zIn m x y) (zCu0 m) : Nat) : Int)))) := by
  intro d
  induction d using Nat.strongRecOn with
  | ind d ih =>
    intro z w hd hi hz
    have bu : 0 ≤ m.1 22 0 3 ∧ m.1 22 0 3 ≤ 24 := hG.1 22 _ rfl _ _
    have b1 : 0 ≤ m.1 22 0 3 ∧ m.1 22 0 3 ≤ 24 := hG.1 22 _ rfl _ _
    refine ww_go 3 (pc' := 11) (L' := [(0, .inr (.inr (.inl (some (22, 0))))), (1, .inl x), (2, .inl y), (3, .inl z), (4, .inl w)]) (st' := [.inl (m.1 22 0 3), .inl w]) (m' := m) (o := some ((0 < 1))) rfl (show (0 < 1) from by omega) ?_
    refine ww_ic (t := 45) rfl rfl (by omega) (fun (h2 : m.1 22 0 3 ≤ w) => ?_) (fun (h2 : ¬ (m.1 22 0 3 ≤ w)) => ?_)
    · show wW (zK sc) zM116 45 [(0, .inr (.inr (.inl (some (22, 0))))), (1, .inl x), (2, .inl y), (3, .inl z), (4, .inl w)] [] _ _ _
      refine ww_go 1 (pc' := 46) (L' := [(0, .inr (.inr (.inl (some (22, 0))))), (1, .inl x), (2, .inl y), (3, .inl z), (4, .inl w)]) (st' := [.inl z]) (m' := m) (o := none) rfl trivial ?_
      exact ww_rI rfl rfl ⟨_, rfl, rfl, rfl, by exact ⟨by omega, by rw [hz, show w = m.1 22 0 3 from by omega]; rfl⟩⟩
    · show wW (zK sc) zM116 14 [(0, .inr (.inr (.inl (some (22, 0))))), (1, .inl x), (2, .inl y), (3, .inl z), (4, .inl w)] [] _ _ _
      have b3 : 0 ≤ m.1 23 0 w.toNat ∧ m.1 23 0 w.toNat ≤ 4000000 := hG.1 23 _ rfl _ _
      refine ww_go 5 (pc' := 22) (L' := [(0, .inr (.inr (.inl (some (22, 0))))), (1, .inl x), (2, .inl y), (3, .inl z), (4, .inl w)]) (st' := [.inl x, .inl (m.1 23 0 w.toNat)]) (m' := m) (o := some ((0 < 1) ∧ (0 < 1 ∧ 0 ≤ w ∧ w < ((24 : Nat) : Int)))) rfl (show (0 < 1) ∧ (0 < 1 ∧ 0 ≤ w ∧ w < ((24 : Nat) : Int)) from by omega) ?_
      refine ww_ic (t := 39) rfl rfl (by omega) (fun (h4 : m.1 23 0 w.toNat < x) => ?_) (fun (h4 : ¬ (m.1 23 0 w.toNat < x)) => ?_)
      · show wW (zK sc) zM116 39 [(0, .inr (.inr (.inl (some (22, 0))))), (1, .inl x), (2, .inl y), (3, .inl z), (4, .inl w)] [] _ _ _
        refine ww_go 2 (pc' := 5) (L' := [(4, .inl (w + 1)), (0, .inr (.inr (.inl (some (22, 0))))), (1, .inl x), (2, .inl y), (3, .inl z)]) (st' := []) (m' := m) (o := none) rfl trivial ?_
        refine ww_sub (L := [(0, .inr (.inr (.inl (some (22, 0))))), (1, .inl x), (2, .inl y), (3, .inl z), (4, .inl (w + 1))]) ⟨rfl, rfl, rfl, rfl, rfl, trivial⟩ rfl rfl ?_
        exact (ih _ (by omega)) z (w + 1) rfl (by omega) (by rw [show (w + 1).toNat = w.toNat + 1 from by omega, zct_n (P := zIn m x y) (u := w.toNat) (show decide (x ≤ m.1 23 0 w.toNat ∧ m.1 23 0 w.toNat ≤ y) = false from decide_eq_false (by omega))]; exact hz)
      · show wW (zK sc) zM116 25 [(0, .inr (.inr (.inl (some (22, 0))))), (1, .inl x), (2, .inl y), (3, .inl z), (4, .inl w)] [] _ _ _
        have b5 : 0 ≤ m.1 23 0 w.toNat ∧ m.1 23 0 w.toNat ≤ 4000000 := hG.1 23 _ rfl _ _
        refine ww_go 5 (pc' := 33) (L' := [(0, .inr (.inr (.inl (some (22, 0))))), (1, .inl x), (2, .inl y), (3, .inl z), (4, .inl w)]) (st' := [.inl y, .inl (m.1 23 0 w.toNat)]) (m' := m) (o := some ((0 < 1) ∧ (0 < 1 ∧ 0 ≤ w ∧ w < ((24 : Nat) : Int)))) rfl (show (0 < 1) ∧ (0 < 1 ∧ 0 ≤ w ∧ w < ((24 : Nat) : Int)) from by omega) ?_
        refine ww_ic (t := 39) rfl rfl (by omega) (fun (h6 : y < m.1 23 0 w.toNat) => ?_) (fun (h6 : ¬ (y < m.1 23 0 w.toNat)) => ?_)
        · show wW (zK sc) zM116 39 [(0, .inr (.inr (.inl (some (22, 0))))), (1, .inl x), (2, .inl y), (3, .inl z), (4, .inl w)] [] _ _ _
          refine ww_go 2 (pc' := 5) (L' := [(4, .inl (w + 1)), (0, .inr (.inr (.inl (some (22, 0))))), (1, .inl x), (2, .inl y), (3, .inl z)]) (st' := []) (m' := m) (o := none) rfl trivial ?_
          refine ww_sub (L := [(0, .inr (.inr (.inl (some (22, 0))))), (1, .inl x), (2, .inl y), (3, .inl z), (4, .inl (w + 1))]) ⟨rfl, rfl, rfl, rfl, rfl, trivial⟩ rfl rfl ?_
          exact (ih _ (by omega)) z (w + 1) rfl (by omega) (by rw [show (w + 1).toNat = w.toNat + 1 from by omega, zct_n (P := zIn m x y) (u := w.toNat) (show decide (x ≤ m.1 23 0 w.toNat ∧ m.1 23 0 w.toNat ≤ y) = false from decide_eq_false (by omega))]; exact hz)
        · show wW (zK sc) zM116 36 [(0, .inr (.inr (.inl (some (22, 0))))), (1, .inl x), (2, .inl y), (3, .inl z), (4, .inl w)] [] _ _ _
          refine ww_go 3 (pc' := 5) (L' := [(4, .inl (w + 1)), (3, .inl (z + 1)), (0, .inr (.inr (.inl (some (22, 0))))), (1, .inl x), (2, .inl y)]) (st' := []) (m' := m) (o := none) rfl trivial ?_
          refine ww_sub (L := [(0, .inr (.inr (.inl (some (22, 0))))), (1, .inl x), (2, .inl y), (3, .inl (z + 1)), (4, .inl (w + 1))]) ⟨rfl, rfl, rfl, rfl, rfl, trivial⟩ rfl rfl ?_
          exact (ih _ (by omega)) (z + 1) (w + 1) rfl (by omega) (by rw [show (w + 1).toNat = w.toNat + 1 from by omega, zct_s (P := zIn m x y) (u := w.toNat) (show decide (x ≤ m.1 23 0 w.toNat ∧ m.1 23 0 w.toNat ≤ y) = true from decide_eq_true (by omega))]; omega)
set_option maxRecDepth 8000 in
/-- Rows.rowsIn -/
theorem yt116 {sc : xSc} {n : Nat × Nat} {m : wm} {c : Int} (hc : 0 ≤ c ∧ c ≤ 1000000) (x : Int) (y : Int) (hG : zB c m) (h0 : -2147483648 ≤ x ∧ x ≤ 2147483647 ∧ -2147483648 ≤ y ∧ y ≤ 2147483647) : wX (zK sc) 116 [.inr (.inr (.inl (some (22, 0)))), .inl x, .inl y] n m (wr (fun vv n1 m1 => ∃ r : Int, vv = some (.inl r) ∧ n = n1 ∧ m = m1 ∧ ((0 ≤ r ∧ r ≤ 24) ∧ r = ((zct (zIn m x y) (zCu0 m) : Nat) : Int)))) := by
  refine wX_of (N := zM116) rfl (Nat.le_of_ble_eq_true rfl) ?_
  show wW (zK sc) zM116 0 [(0, .inr (.inr (.inl (some (22, 0))))), (1, .inl x), (2, .inl y)] [] n m _
  have bu : 0 ≤ m.1 22 0 3 ∧ m.1 22 0 3 ≤ 24 := hG.1 22 _ rfl _ _
  refine ww_go 4 (pc' := 5) (L' := [(4, .inl 0), (3, .inl 0), (0, .inr (.inr (.inl (some (22, 0))))), (1, .inl x), (2, .inl y)]) (st' := []) (m' := m) (o := none) rfl trivial ?_
  refine ww_sub (L := [(0, .inr (.inr (.inl (some (22, 0))))), (1, .inl x), (2, .inl y), (3, .inl 0), (4, .inl 0)]) ⟨rfl, rfl, rfl, rfl, rfl, trivial⟩ rfl rfl ?_
  exact (yt116_l5 hc x y hG h0 _) 0 0 rfl (by omega) (by rfl)
set_option maxRecDepth 8000 in
theorem yt106_l5 {sc : xSc} {n : Nat × Nat} {m0 : wm} {c : Int} (hc : 0 ≤ c ∧ c ≤ 1000000) (x : Int) (y : Int) (hG : zB c m0) (h0 : -2147483648 ≤ x ∧ x ≤ 2147483647 ∧ -2147483648 ≤ y ∧ y ≤ 2147483647) : ∀ (d : Nat), ∀ (z : Int) (w : Int) (m : wm), (24 - w).toNat = d → zB c m → zfr (fun k i j => (k = 22 ∧ j = 3) ∨ (k = 23) ∨ (k = 24) ∨ (k = 25)) m0 m → (0 ≤ w ∧ w ≤ m0.1 22 0 3 ∧ 0 ≤ z ∧ z ≤ w ∧ m.1 22 0 3 = m0.1 22 0 3) → (z = ((zct (zOut m0 x y) w.toNat : Nat) : Int)) → (zDu m0 m x y w) →  wW (zK sc) zM106 5 [(0, .inr (.inr (.inl (some (22, 0))))), (1, .inl x), (2, .inl y), (3, .inl z), (4, .inl w)] [] n m (wr (fun vv n1 m1 => vv = none ∧ n = n1 ∧ zB c m1 ∧ zfr (fun k i j => (k = 22 ∧ j = 3) ∨ (k = 23) ∨ (k = 24) ∨ (k = 25)) m0 m1 ∧ (zDr m0 m1 x y))) := by
  intro d
  induction d using Nat.strongRecOn with
  | ind d ih =>
    intro z w m hd hGm hFm hi hz hD
    have bu0 : 0 ≤ m0.1 22 0 3 ∧ m0.1 22 0 3 ≤ 24 := hG.1 22 _ rfl _ _
    have hk9 : m.1 23 0 w.toNat = m0.1 23 0 w.toNat := (hD.2 w.toNat (by omega)).1
    have b1 : 0 ≤ m.1 22 0 3 ∧ m.1 22 0 3 ≤ 24 := hGm.1 22 _ rfl _ _
    refine ww_go 3 (pc' := 11) (L' := [(0, .inr (.inr (.inl (some (22, 0))))), (1, .inl x), (2, .inl y), (3, .inl z), (4, .inl w)]) (st' := [.inl (m.1 22 0 3), .inl w]) (m' := m) (o := some ((0 < 1))) rfl (show (0 < 1) from by omega) ?_
    refine ww_ic (t := 84) rfl rfl (by omega) (fun (h2 : m.1 22 0 3 ≤ w) => ?_) (fun (h2 : ¬ (m.1 22 0 3 ≤ w)) => ?_)
    · show wW (zK sc) zM106 84 [(0, .inr (.inr (.inl (some (22, 0))))), (1, .inl x), (2, .inl y), (3, .inl z), (4, .inl w)] [] _ _ _
      refine ww_go 3 (pc' := 89) (L' := [(0, .inr (.inr (.inl (some (22, 0))))), (1, .inl x), (2, .inl y), (3, .inl z), (4, .inl w)]) (st' := []) (m' := wuI m 22 0 3 z) (o := some ((0 < 1))) rfl (show (0 < 1) from by omega) ?_
      obtain ⟨m3, hm3⟩ : ∃ zq9 : wm, zq9 = wuI m 22 0 3 z := ⟨_, rfl⟩
      rw [← hm3]
      have hGm3 : zB c m3 := by rw [hm3]; exact zB_wI rfl (show 0 ≤ z ∧ z ≤ 24 from by omega) hGm
      have hFm3 : zfr (fun k i j => (k = 22 ∧ j = 3) ∨ (k = 23) ∨ (k = 24) ∨ (k = 25)) m0 m3 := by rw [hm3]; exact zfr_wI hFm (show (22 = 22 ∧ 3 = 3) ∨ (22 = 23) ∨ (22 = 24) ∨ (22 = 25) from Or.inl (⟨rfl, rfl⟩))
      have s4 : m3.1 22 0 3 = z := by rw [hm3]; exact wuI_self
      exact ww_rV rfl rfl ⟨rfl, rfl, zB_mono hGm3 (by omega), hFm3, ⟨(by rw [show m3.1 22 0 3 = z from by omega, hz, show w = m0.1 22 0 3 from by omega]; rfl), fun i hi hZ => (by rw [hm3]; exact hD.1 i (by unfold zCu0 at hi; omega) hZ)⟩⟩
    · show wW (zK sc) zM106 14 [(0, .inr (.inr (.inl (some (22, 0))))), (1, .inl x), (2, .inl y), (3, .inl z), (4, .inl w)] [] _ _ _
      have b5 : 0 ≤ m.1 23 0 w.toNat ∧ m.1 23 0 w.toNat ≤ 4000000 := hGm.1 23 _ rfl _ _
      refine ww_go 5 (pc' := 22) (L' := [(0, .inr (.inr (.inl (some (22, 0))))), (1, .inl x), (2, .inl y), (3, .inl z), (4, .inl w)]) (st' := [.inl x, .inl (m.1 23 0 w.toNat)]) (m' := m) (o := some ((0 < 1) ∧ (0 < 1 ∧ 0 ≤ w ∧ w < ((24 : Nat) : Int)))) rfl (show (0 < 1) ∧ (0 < 1 ∧ 0 ≤ w ∧ w < ((24 : Nat) : Int)) from by omega) ?_
      refine ww_ic (t := 36) rfl rfl (by omega) (fun (h6 : m.1 23 0 w.toNat < x) => ?_) (fun (h6 : ¬ (m.1 23 0 w.toNat < x)) => ?_)
      · show wW (zK sc) zM106 36 [(0, .inr (.inr (.inl (some (22, 0))))), (1, .inl x), (2, .inl y), (3, .inl z), (4, .inl w)] [] _ _ _
        have b7 : 0 ≤ m.1 23 0 w.toNat ∧ m.1 23 0 w.toNat ≤ 4000000 := hGm.1 23 _ rfl _ _
        refine ww_go 8 (pc' := 49) (L' := [(0, .inr (.inr (.inl (some (22, 0))))), (1, .inl x), (2, .inl y), (3, .inl z), (4, .inl w)]) (st' := []) (m' := wuI m 23 0 z.toNat (m.1 23 0 w.toNat)) (o := some ((0 < 1) ∧ (0 < 1) ∧ (0 < 1 ∧ 0 ≤ w ∧ w < ((24 : Nat) : Int)) ∧ (0 < 1 ∧ 0 ≤ z ∧ z < ((24 : Nat) : Int)))) rfl (show (0 < 1) ∧ (0 < 1) ∧ (0 < 1 ∧ 0 ≤ w ∧ w < ((24 : Nat) : Int)) ∧ (0 < 1 ∧ 0 ≤ z ∧ z < ((24 : Nat) : Int)) from by omega) ?_
        obtain ⟨m8, hm8⟩ : ∃ zq9 : wm, zq9 = wuI m 23 0 z.toNat (m.1 23 0 w.toNat) := ⟨_, rfl⟩
        rw [← hm8]
        have hGm8 : zB c m8 := by rw [hm8]; exact zB_wI rfl (show 0 ≤ m.1 23 0 w.toNat ∧ m.1 23 0 w.toNat ≤ 4000000 from by omega) hGm
        have hFm8 : zfr (fun k i j => (k = 22 ∧ j = 3) ∨ (k = 23) ∨ (k = 24) ∨ (k = 25)) m0 m8 := by rw [hm8]; exact zfr_wI hFm (show (23 = 22 ∧ z.toNat = 3) ∨ (23 = 23) ∨ (23 = 24) ∨ (23 = 25) from Or.inr (Or.inl rfl))
        have s9 : m8.1 23 0 z.toNat = m.1 23 0 w.toNat := by rw [hm8]; exact wuI_self
        have w10 : m8.1 22 0 3 = m.1 22 0 3 := by rw [hm8]; rfl
        have b11 : (-2147483648) ≤ m8.1 24 0 w.toNat ∧ m8.1 24 0 w.toNat ≤ 2147483647 := hGm8.1 24 _ rfl _ _
        refine ww_go 8 (pc' := 62) (L' := [(0, .inr (.inr (.inl (some (22, 0))))), (1, .inl x), (2, .inl y), (3, .inl z), (4, .inl w)]) (st' := []) (m' := wuI m8 24 0 z.toNat (m8.1 24 0 w.toNat)) (o := some ((0 < 1) ∧ (0 < 1) ∧ (0 < 1 ∧ 0 ≤ w ∧ w < ((24 : Nat) : Int)) ∧ (0 < 1 ∧ 0 ≤ z ∧ z < ((24 : Nat) : Int)))) rfl (show (0 < 1) ∧ (0 < 1) ∧ (0 < 1 ∧ 0 ≤ w ∧ w < ((24 : Nat) : Int)) ∧ (0 < 1 ∧ 0 ≤ z ∧ z < ((24 : Nat) : Int)) from by omega) ?_
        obtain ⟨m12, hm12⟩ : ∃ zq9 : wm, zq9 = wuI m8 24 0 z.toNat (m8.1 24 0 w.toNat) := ⟨_, rfl⟩
        rw [← hm12]
        have hGm12 : zB c m12 := by rw [hm12]; exact zB_wI rfl (show (-2147483648) ≤ m8.1 24 0 w.toNat ∧ m8.1 24 0 w.toNat ≤ 2147483647 from by omega) hGm8
        have hFm12 : zfr (fun k i j => (k = 22 ∧ j = 3) ∨ (k = 23) ∨ (k = 24) ∨ (k = 25)) m0 m12 := by rw [hm12]; exact zfr_wI hFm8 (show (24 = 22 ∧ z.toNat = 3) ∨ (24 = 23) ∨ (24 = 24) ∨ (24 = 25) from Or.inr (Or.inr (Or.inl rfl)))
        have s13 : m12.1 24 0 z.toNat = m8.1 24 0 w.toNat := by rw [hm12]; exact wuI_self
        have w14 : m12.1 22 0 3 = m8.1 22 0 3 := by rw [hm12]; rfl
        refine ww_go 8 (pc' := 75) (L' := [(0, .inr (.inr (.inl (some (22, 0))))), (1, .inl x), (2, .inl y), (3, .inl z), (4, .inl w)]) (st' := []) (m' := wuL m12 25 0 z.toNat (m12.2.1 25 0 w.toNat)) (o := some ((0 < 1) ∧ (0 < 1) ∧ (0 < 1 ∧ 0 ≤ w ∧ w < ((24 : Nat) : Int)) ∧ (0 < 1 ∧ 0 ≤ z ∧ z < ((24 : Nat) : Int)))) rfl (show (0 < 1) ∧ (0 < 1) ∧ (0 < 1 ∧ 0 ≤ w ∧ w < ((24 : Nat) : Int)) ∧ (0 < 1 ∧ 0 ≤ z ∧ z < ((24 : Nat) : Int)) from by omega) ?_
        obtain ⟨m15, hm15⟩ : ∃ zq9 : wm, zq9 = wuL m12 25 0 z.toNat (m12.2.1 25 0 w.toNat) := ⟨_, rfl⟩
        rw [← hm15]
        have hGm15 : zB c m15 := by rw [hm15]; exact zB_wL hGm12
        have hFm15 : zfr (fun k i j => (k = 22 ∧ j = 3) ∨ (k = 23) ∨ (k = 24) ∨ (k = 25)) m0 m15 := by rw [hm15]; exact zfr_wL hFm12 (show (25 = 22 ∧ z.toNat = 3) ∨ (25 = 23) ∨ (25 = 24) ∨ (25 = 25) from Or.inr (Or.inr (Or.inr (rfl))))
        have w16 : m15.1 22 0 3 = m12.1 22 0 3 := by rw [hm15]; rfl
        refine ww_go 3 (pc' := 5) (L' := [(4, .inl (w + 1)), (3, .inl (z + 1)), (0, .inr (.inr (.inl (some (22, 0))))), (1, .inl x), (2, .inl y)]) (st' := []) (m' := m15) (o := none) rfl trivial ?_
        refine ww_sub (L := [(0, .inr (.inr (.inl (some (22, 0))))), (1, .inl x), (2, .inl y), (3, .inl (z + 1)), (4, .inl (w + 1))]) ⟨rfl, rfl, rfl, rfl, rfl, trivial⟩ rfl rfl ?_
        exact (ih _ (by omega)) (z + 1) (w + 1) m15 rfl (zB_mono hGm15 (by omega)) hFm15 (by omega) (by rw [show (w + 1).toNat = w.toNat + 1 from by omega, zct_s (P := zOut m0 x y) (u := w.toNat) (show decide (m0.1 23 0 w.toNat < x ∨ y < m0.1 23 0 w.toNat) = true from decide_eq_true (by omega))]; omega) (by exact zDu_s hD (by omega) hz (show decide (m0.1 23 0 w.toNat < x ∨ y < m0.1 23 0 w.toNat) = true from decide_eq_true (by omega)) hm8 hm12 hm15)
      · show wW (zK sc) zM106 25 [(0, .inr (.inr (.inl (some (22, 0))))), (1, .inl x), (2, .inl y), (3, .inl z), (4, .inl w)] [] _ _ _
        have b17 : 0 ≤ m.1 23 0 w.toNat ∧ m.1 23 0 w.toNat ≤ 4000000 := hGm.1 23 _ rfl _ _
        refine ww_go 5 (pc' := 33) (L' := [(0, .inr (.inr (.inl (some (22, 0))))), (1, .inl x), (2, .inl y), (3, .inl z), (4, .inl w)]) (st' := [.inl y, .inl (m.1 23 0 w.toNat)]) (m' := m) (o := some ((0 < 1) ∧ (0 < 1 ∧ 0 ≤ w ∧ w < ((24 : Nat) : Int)))) rfl (show (0 < 1) ∧ (0 < 1 ∧ 0 ≤ w ∧ w < ((24 : Nat) : Int)) from by omega) ?_
        refine ww_ic (t := 78) rfl rfl (by omega) (fun (h18 : m.1 23 0 w.toNat ≤ y) => ?_) (fun (h18 : ¬ (m.1 23 0 w.toNat ≤ y)) => ?_)
        · show wW (zK sc) zM106 78 [(0, .inr (.inr (.inl (some (22, 0))))), (1, .inl x), (2, .inl y), (3, .inl z), (4, .inl w)] [] _ _ _
          refine ww_go 2 (pc' := 5) (L' := [(4, .inl (w + 1)), (0, .inr (.inr (.inl (some (22, 0))))), (1, .inl x), (2, .inl y), (3, .inl z)]) (st' := []) (m' := m) (o := none) rfl trivial ?_
          refine ww_sub (L := [(0, .inr (.inr (.inl (some (22, 0))))), (1, .inl x), (2, .inl y), (3, .inl z), (4, .inl (w + 1))]) ⟨rfl, rfl, rfl, rfl, rfl, trivial⟩ rfl rfl ?_
          exact (ih _ (by omega)) z (w + 1) m rfl (zB_mono hGm (by omega)) hFm (by omega) (by rw [show (w + 1).toNat = w.toNat + 1 from by omega, zct_n (P := zOut m0 x y) (u := w.toNat) (show decide (m0.1 23 0 w.toNat < x ∨ y < m0.1 23 0 w.toNat) = false from decide_eq_false (by omega))]; exact hz) (by exact zDu_n hD (by omega) (show decide (m0.1 23 0 w.toNat < x ∨ y < m0.1 23 0 w.toNat) = false from decide_eq_false (by omega)))
        · show wW (zK sc) zM106 36 [(0, .inr (.inr (.inl (some (22, 0))))), (1, .inl x), (2, .inl y), (3, .inl z), (4, .inl w)] [] _ _ _
          have b19 : 0 ≤ m.1 23 0 w.toNat ∧ m.1 23 0 w.toNat ≤ 4000000 := hGm.1 23 _ rfl _ _
          refine ww_go 8 (pc' := 49) (L' := [(0, .inr (.inr (.inl (some (22, 0))))), (1, .inl x), (2, .inl y), (3, .inl z), (4, .inl w)]) (st' := []) (m' := wuI m 23 0 z.toNat (m.1 23 0 w.toNat)) (o := some ((0 < 1) ∧ (0 < 1) ∧ (0 < 1 ∧ 0 ≤ w ∧ w < ((24 : Nat) : Int)) ∧ (0 < 1 ∧ 0 ≤ z ∧ z < ((24 : Nat) : Int)))) rfl (show (0 < 1) ∧ (0 < 1) ∧ (0 < 1 ∧ 0 ≤ w ∧ w < ((24 : Nat) : Int)) ∧ (0 < 1 ∧ 0 ≤ z ∧ z < ((24 : Nat) : Int)) from by omega) ?_
          obtain ⟨m20, hm20⟩ : ∃ zq9 : wm, zq9 = wuI m 23 0 z.toNat (m.1 23 0 w.toNat) := ⟨_, rfl⟩
          rw [← hm20]
          have hGm20 : zB c m20 := by rw [hm20]; exact zB_wI rfl (show 0 ≤ m.1 23 0 w.toNat ∧ m.1 23 0 w.toNat ≤ 4000000 from by omega) hGm
          have hFm20 : zfr (fun k i j => (k = 22 ∧ j = 3) ∨ (k = 23) ∨ (k = 24) ∨ (k = 25)) m0 m20 := by rw [hm20]; exact zfr_wI hFm (show (23 = 22 ∧ z.toNat = 3) ∨ (23 = 23) ∨ (23 = 24) ∨ (23 = 25) from Or.inr (Or.inl rfl))
          have s21 : m20.1 23 0 z.toNat = m.1 23 0 w.toNat := by rw [hm20]; exact wuI_self
          have w22 : m20.1 22 0 3 = m.1 22 0 3 := by rw [hm20]; rfl
          have b23 : (-2147483648) ≤ m20.1 24 0 w.toNat ∧ m20.1 24 0 w.toNat ≤ 2147483647 := hGm20.1 24 _ rfl _ _
          refine ww_go 8 (pc' := 62) (L' := [(0, .inr (.inr (.inl (some (22, 0))))), (1, .inl x), (2, .inl y), (3, .inl z), (4, .inl w)]) (st' := []) (m' := wuI m20 24 0 z.toNat (m20.1 24 0 w.toNat)) (o := some ((0 < 1) ∧ (0 < 1) ∧ (0 < 1 ∧ 0 ≤ w ∧ w < ((24 : Nat) : Int)) ∧ (0 < 1 ∧ 0 ≤ z ∧ z < ((24 : Nat) : Int)))) rfl (show (0 < 1) ∧ (0 < 1) ∧ (0 < 1 ∧ 0 ≤ w ∧ w < ((24 : Nat) : Int)) ∧ (0 < 1 ∧ 0 ≤ z ∧ z < ((24 : Nat) : Int)) from by omega) ?_
          obtain ⟨m24, hm24⟩ : ∃ zq9 : wm, zq9 = wuI m20 24 0 z.toNat (m20.1 24 0 w.toNat) := ⟨_, rfl⟩
          rw [← hm24]
          have hGm24 : zB c m24 := by rw [hm24]; exact zB_wI rfl (show (-2147483648) ≤ m20.1 24 0 w.toNat ∧ m20.1 24 0 w.toNat ≤ 2147483647 from by omega) hGm20
          have hFm24 : zfr (fun k i j => (k = 22 ∧ j = 3) ∨ (k = 23) ∨ (k = 24) ∨ (k = 25)) m0 m24 := by rw [hm24]; exact zfr_wI hFm20 (show (24 = 22 ∧ z.toNat = 3) ∨ (24 = 23) ∨ (24 = 24) ∨ (24 = 25) from Or.inr (Or.inr (Or.inl rfl)))
          have s25 : m24.1 24 0 z.toNat = m20.1 24 0 w.toNat := by rw [hm24]; exact wuI_self
          have w26 : m24.1 22 0 3 = m20.1 22 0 3 := by rw [hm24]; rfl
          refine ww_go 8 (pc' := 75) (L' := [(0, .inr (.inr (.inl (some (22, 0))))), (1, .inl x), (2, .inl y), (3, .inl z), (4, .inl w)]) (st' := []) (m' := wuL m24 25 0 z.toNat (m24.2.1 25 0 w.toNat)) (o := some ((0 < 1) ∧ (0 < 1) ∧ (0 < 1 ∧ 0 ≤ w ∧ w < ((24 : Nat) : Int)) ∧ (0 < 1 ∧ 0 ≤ z ∧ z < ((24 : Nat) : Int)))) rfl (show (0 < 1) ∧ (0 < 1) ∧ (0 < 1 ∧ 0 ≤ w ∧ w < ((24 : Nat) : Int)) ∧ (0 < 1 ∧ 0 ≤ z ∧ z < ((24 : Nat) : Int)) from by omega) ?_
          obtain ⟨m27, hm27⟩ : ∃ zq9 : wm, zq9 = wuL m24 25 0 z.toNat (m24.2.1 25 0 w.toNat) := ⟨_, rfl⟩
          rw [← hm27]
          have hGm27 : zB c m27 := by rw [hm27]; exact zB_wL hGm24
          have hFm27 : zfr (fun k i j => (k = 22 ∧ j = 3) ∨ (k = 23) ∨ (k = 24) ∨ (k = 25)) m0 m27 := by rw [hm27]; exact zfr_wL hFm24 (show (25 = 22 ∧ z.toNat = 3) ∨ (25 = 23) ∨ (25 = 24) ∨ (25 = 25) from Or.inr (Or.inr (Or.inr (rfl))))
          have w28 : m27.1 22 0 3 = m24.1 22 0 3 := by rw [hm27]; rfl
          refine ww_go 3 (pc' := 5) (L' := [(4, .inl (w + 1)), (3, .inl (z + 1)), (0, .inr (.inr (.inl (some (22, 0))))), (1, .inl x), (2, .inl y)]) (st' := []) (m' := m27) (o := none) rfl trivial ?_
          refine ww_sub (L := [(0, .inr (.inr (.inl (some (22, 0))))), (1, .inl x), (2, .inl y), (3, .inl (z + 1)), (4, .inl (w + 1))]) ⟨rfl, rfl, rfl, rfl, rfl, trivial⟩ rfl rfl ?_
          exact (ih _ (by omega)) (z + 1) (w + 1) m27 rfl (zB_mono hGm27 (by omega)) hFm27 (by omega) (by rw [show (w + 1).toNat = w.toNat + 1 from by omega, zct_s (P := zOut m0 x y) (u := w.toNat) (show decide (m0.1 23 0 w.toNat < x ∨ y < m0.1 23 0 w.toNat) = true from decide_eq_true (by omega))]; omega) (by exact zDu_s hD (by omega) hz (show decide (m0.1 23 0 w.toNat < x ∨ y < m0.1 23 0 w.toNat) = true from decide_eq_true (by omega)) hm20 hm24 hm27)
set_option maxRecDepth 8000 in
/-- Rows.drop -/
theorem yt106 {sc : xSc} {n : Nat × Nat} {m0 : wm} {c : Int} (hc : 0 ≤ c ∧ c ≤ 1000000) (x : Int) (y : Int) (hG : zB c m0) (h0 : -2147483648 ≤ x ∧ x ≤ 2147483647 ∧ -2147483648 ≤ y ∧ y ≤ 2147483647) : wX (zK sc) 106 [.inr (.inr (.inl (some (22, 0)))), .inl x, .inl y] n m0 (wr (fun vv n1 m1 => vv = none ∧ n = n1 ∧ zB c m1 ∧ zfr (fun k i j => (k = 22 ∧ j = 3) ∨ (k = 23) ∨ (k = 24) ∨ (k = 25)) m0 m1 ∧ (zDr m0 m1 x y))) := by
  refine wX_of (N := zM106) rfl (Nat.le_of_ble_eq_true rfl) ?_
  show wW (zK sc) zM106 0 [(0, .inr (.inr (.inl (some (22, 0))))), (1, .inl x), (2, .inl y)] [] n m0 _
  have hF : zfr (fun k i j => (k = 22 ∧ j = 3) ∨ (k = 23) ∨ (k = 24) ∨ (k = 25)) m0 m0 := zfr_rf
  have bu0 : 0 ≤ m0.1 22 0 3 ∧ m0.1 22 0 3 ≤ 24 := hG.1 22 _ rfl _ _
  refine ww_go 4 (pc' := 5) (L' := [(4, .inl 0), (3, .inl 0), (0, .inr (.inr (.inl (some (22, 0))))), (1, .inl x), (2, .inl y)]) (st' := []) (m' := m0) (o := none) rfl trivial ?_
  refine ww_sub (L := [(0, .inr (.inr (.inl (some (22, 0))))), (1, .inl x), (2, .inl y), (3, .inl 0), (4, .inl 0)]) ⟨rfl, rfl, rfl, rfl, rfl, trivial⟩ rfl rfl ?_
  exact (yt106_l5 hc x y hG h0 _) 0 0 m0 rfl (zB_mono hG (by omega)) hF (by omega) (by rfl) (by exact zDu_0)
set_option maxRecDepth 8000 in
/-- Rows.dropAll -/
theorem yt107 {sc : xSc} {n : Nat × Nat} {m0 : wm} {c : Int} (hc : 0 ≤ c ∧ c ≤ 1000000)  (hG : zB c m0) : wX (zK sc) 107 [.inr (.inr (.inl (some (22, 0))))] n m0 (wr (fun vv n1 m1 => vv = none ∧ n = n1 ∧ zB c m1 ∧ zfr (fun k i j => (k = 22 ∧ j = 3)) m0 m1 ∧ (m1.1 22 0 3 = 0))) := by
  refine wX_of (N := zM107) rfl (Nat.le_of_ble_eq_true rfl) ?_
  show wW (zK sc) zM107 0 [(0, .inr (.inr (.inl (some (22, 0)))))] [] n m0 _
  have hF : zfr (fun k i j => (k = 22 ∧ j = 3)) m0 m0 := zfr_rf
  refine ww_go 3 (pc' := 5) (L' := [(0, .inr (.inr (.inl (some (22, 0)))))]) (st' := []) (m' := wuI m0 22 0 3 0) (o := some ((0 < 1))) rfl (show (0 < 1) from by omega) ?_
  obtain ⟨m1, hm1⟩ : ∃ zq9 : wm, zq9 = wuI m0 22 0 3 0 := ⟨_, rfl⟩
  rw [← hm1]
  have hGm1 : zB c m1 := by rw [hm1]; exact zB_wI rfl (show 0 ≤ (0 : Int) ∧ (0 : Int) ≤ 24 from by omega) hG
  have hFm1 : zfr (fun k i j => (k = 22 ∧ j = 3)) m0 m1 := by rw [hm1]; exact zfr_wI hF (show (22 = 22 ∧ 3 = 3) from ⟨rfl, rfl⟩)
  have s2 : m1.1 22 0 3 = (0 : Int) := by rw [hm1]; exact wuI_self
  exact ww_rV rfl rfl ⟨rfl, rfl, zB_mono hGm1 (by omega), hFm1, by omega⟩
set_option maxRecDepth 8000 in
/-- Rows.hasPivotIn -/
theorem yt109 {sc : xSc} {n : Nat × Nat} {m : wm} {c : Int} (hc : 0 ≤ c ∧ c ≤ 1000000) (z : Int) (x : Int) (y : Int) (hG : zB c m) (h0 : 0 ≤ z ∧ z ≤ 23 ∧ -2147483648 ≤ x ∧ x ≤ 2147483647 ∧ -2147483648 ≤ y ∧ y ≤ 2147483647) : wX (zK sc) 109 [.inr (.inr (.inl (some (22, 0)))), .inl z, .inl x, .inl y] n m (wr (fun vv n1 m1 => ∃ r : Int, vv = some (.inl r) ∧ n = n1 ∧ m = m1 ∧ ((r = 1 ∧ m.1 23 0 z.toNat = x ∧ wand (wand (m.1 24 0 z.toNat) (-(m.1 24 0 z.toNat))) y ≠ 0) ∨ (r = 0 ∧ ¬ (m.1 23 0 z.toNat = x ∧ wand (wand (m.1 24 0 z.toNat) (-(m.1 24 0 z.toNat))) y ≠ 0))))) := by
  refine wX_of (N := zM109) rfl (Nat.le_of_ble_eq_true rfl) ?_
  show wW (zK sc) zM109 0 [(0, .inr (.inr (.inl (some (22, 0))))), (1, .inl z), (2, .inl x), (3, .inl y)] [] n m _
  have b1 : 0 ≤ m.1 23 0 z.toNat ∧ m.1 23 0 z.toNat ≤ 4000000 := hG.1 23 _ rfl _ _
  refine ww_go 5 (pc' := 7) (L' := [(0, .inr (.inr (.inl (some (22, 0))))), (1, .inl z), (2, .inl x), (3, .inl y)]) (st' := [.inl x, .inl (m.1 23 0 z.toNat)]) (m' := m) (o := some ((0 < 1) ∧ (0 < 1 ∧ 0 ≤ z ∧ z < ((24 : Nat) : Int)))) rfl (show (0 < 1) ∧ (0 < 1 ∧ 0 ≤ z ∧ z < ((24 : Nat) : Int)) from by omega) ?_
  refine ww_ic (t := 33) rfl rfl (by omega) (fun (h2 : m.1 23 0 z.toNat ≠ x) => ?_) (fun (h2 : ¬ (m.1 23 0 z.toNat ≠ x)) => ?_)
  · show wW (zK sc) zM109 33 [(0, .inr (.inr (.inl (some (22, 0))))), (1, .inl z), (2, .inl x), (3, .inl y)] [] _ _ _
    refine ww_go 1 (pc' := 34) (L' := [(0, .inr (.inr (.inl (some (22, 0))))), (1, .inl z), (2, .inl x), (3, .inl y)]) (st' := [.inl 0]) (m' := m) (o := none) rfl trivial ?_
    exact ww_rB rfl rfl (by omega) ⟨_, rfl, rfl, rfl, by omega⟩
  · show wW (zK sc) zM109 10 [(0, .inr (.inr (.inl (some (22, 0))))), (1, .inl z), (2, .inl x), (3, .inl y)] [] _ _ _
    have b3 : (-2147483648) ≤ m.1 24 0 z.toNat ∧ m.1 24 0 z.toNat ≤ 2147483647 := hG.1 24 _ rfl _ _
    have t4 := wand_rg (m.1 24 0 z.toNat) (-(m.1 24 0 z.toNat))
    have t5 := wand_rg (wand (m.1 24 0 z.toNat) (-(m.1 24 0 z.toNat))) y
    refine ww_go 12 (pc' := 26) (L' := [(0, .inr (.inr (.inl (some (22, 0))))), (1, .inl z), (2, .inl x), (3, .inl y)]) (st' := [.inl (wand (wand (m.1 24 0 z.toNat) (-(m.1 24 0 z.toNat))) y)]) (m' := m) (o := some ((0 < 1) ∧ (0 < 1 ∧ 0 ≤ z ∧ z < ((24 : Nat) : Int)) ∧ (0 < 1) ∧ (0 < 1 ∧ 0 ≤ z ∧ z < ((24 : Nat) : Int)))) rfl (show (0 < 1) ∧ (0 < 1 ∧ 0 ≤ z ∧ z < ((24 : Nat) : Int)) ∧ (0 < 1) ∧ (0 < 1 ∧ 0 ≤ z ∧ z < ((24 : Nat) : Int)) from by omega) ?_
    refine ww_if (t := 33) rfl rfl (by omega) (fun (h6 : wand (wand (m.1 24 0 z.toNat) (-(m.1 24 0 z.toNat))) y = 0) => ?_) (fun (h6 : ¬ (wand (wand (m.1 24 0 z.toNat) (-(m.1 24 0 z.toNat))) y = 0)) => ?_)
    · show wW (zK sc) zM109 33 [(0, .inr (.inr (.inl (some (22, 0))))), (1, .inl z), (2, .inl x), (3, .inl y)] [] _ _ _
      refine ww_go 1 (pc' := 34) (L' := [(0, .inr (.inr (.inl (some (22, 0))))), (1, .inl z), (2, .inl x), (3, .inl y)]) (st' := [.inl 0]) (m' := m) (o := none) rfl trivial ?_
      exact ww_rB rfl rfl (by omega) ⟨_, rfl, rfl, rfl, by omega⟩
    · show wW (zK sc) zM109 29 [(0, .inr (.inr (.inl (some (22, 0))))), (1, .inl z), (2, .inl x), (3, .inl y)] [] _ _ _
      refine ww_go 2 (pc' := 34) (L' := [(0, .inr (.inr (.inl (some (22, 0))))), (1, .inl z), (2, .inl x), (3, .inl y)]) (st' := [.inl 1]) (m' := m) (o := none) rfl trivial ?_
      exact ww_rB rfl rfl (by omega) ⟨_, rfl, rfl, rfl, by omega⟩
set_option maxRecDepth 8000 in
theorem yt117_l5 {sc : xSc} {n : Nat × Nat} {m : wm} {c : Int} (hc : 0 ≤ c ∧ c ≤ 1000000) (x : Int) (y : Int) (hG : zB c m) (h0 : -2147483648 ≤ x ∧ x ≤ 2147483647 ∧ 0 ≤ y ∧ y ≤ 255) (hE : zCe m) : ∀ (d : Nat), ∀ (z : Int) (w : Int), (24 - w).toNat = d → (0 ≤ w ∧ w ≤ m.1 22 0 3 ∧ 0 ≤ z ∧ z ≤ 255) → (zTl m x y z w) →  wW (zK sc) zM117 5 [(0, .inr (.inr (.inl (some (22, 0))))), (1, .inl x), (3, .inl z), (4, .inl w)] [] n m (wr (fun vv n1 m1 => ∃ r : Int, vv = some (.inl r) ∧ n = n1 ∧ m = m1 ∧ ((r = 1 ∧ ∃ v, zsq (zKp m x) (zCw m) (zCu0 m) (y.toNat, v)) ∨ (r = 0 ∧ ¬ ∃ v, zsq (zKp m x) (zCw m) (zCu0 m) (y.toNat, v))))) := by
  intro d
  induction d using Nat.strongRecOn with
  | ind d ih =>
    intro z w hd hi hT
    have bu : 0 ≤ m.1 22 0 3 ∧ m.1 22 0 3 ≤ 24 := hG.1 22 _ rfl _ _
    have hM9 : w < m.1 22 0 3 → 0 ≤ m.1 24 0 w.toNat ∧ m.1 24 0 w.toNat ≤ 255 := fun z => hE.1 w.toNat (by unfold zCu0; omega)
    have b1 : 0 ≤ m.1 22 0 3 ∧ m.1 22 0 3 ≤ 24 := hG.1 22 _ rfl _ _
    refine ww_go 3 (pc' := 11) (L' := [(0, .inr (.inr (.inl (some (22, 0))))), (1, .inl x), (3, .inl z), (4, .inl w)]) (st' := [.inl (m.1 22 0 3), .inl w]) (m' := m) (o := some ((0 < 1))) rfl (show (0 < 1) from by omega) ?_
    refine ww_ic (t := 41) rfl rfl (by omega) (fun (h2 : m.1 22 0 3 ≤ w) => ?_) (fun (h2 : ¬ (m.1 22 0 3 ≤ w)) => ?_)
    · show wW (zK sc) zM117 41 [(0, .inr (.inr (.inl (some (22, 0))))), (1, .inl x), (3, .inl z), (4, .inl w)] [] _ _ _
      refine ww_go 1 (pc' := 42) (L' := [(0, .inr (.inr (.inl (some (22, 0))))), (1, .inl x), (3, .inl z), (4, .inl w)]) (st' := [.inl z]) (m' := m) (o := none) rfl trivial ?_
      refine ww_if (t := 49) rfl rfl (by omega) (fun (h3 : z ≠ 0) => ?_) (fun (h3 : ¬ (z ≠ 0)) => ?_)
      · show wW (zK sc) zM117 49 [(0, .inr (.inr (.inl (some (22, 0))))), (1, .inl x), (3, .inl z), (4, .inl w)] [] _ _ _
        refine ww_go 1 (pc' := 50) (L' := [(0, .inr (.inr (.inl (some (22, 0))))), (1, .inl x), (3, .inl z), (4, .inl w)]) (st' := [.inl 0]) (m' := m) (o := none) rfl trivial ?_
        exact ww_rB rfl rfl (by omega) ⟨_, rfl, rfl, rfl, by exact Or.inr ⟨rfl, fun z9 => absurd ((zTl_e hE hT (by unfold zCu0; omega)).2 z9) (by omega)⟩⟩
      · show wW (zK sc) zM117 45 [(0, .inr (.inr (.inl (some (22, 0))))), (1, .inl x), (3, .inl z), (4, .inl w)] [] _ _ _
        refine ww_go 2 (pc' := 50) (L' := [(0, .inr (.inr (.inl (some (22, 0))))), (1, .inl x), (3, .inl z), (4, .inl w)]) (st' := [.inl 1]) (m' := m) (o := none) rfl trivial ?_
        exact ww_rB rfl rfl (by omega) ⟨_, rfl, rfl, rfl, by exact Or.inl ⟨rfl, (zTl_e hE hT (by unfold zCu0; omega)).1 (by omega)⟩⟩
    · show wW (zK sc) zM117 14 [(0, .inr (.inr (.inl (some (22, 0))))), (1, .inl x), (3, .inl z), (4, .inl w)] [] _ _ _
      refine ww_go 4 (pc' := 19) (L' := [(0, .inr (.inr (.inl (some (22, 0))))), (1, .inl x), (3, .inl z), (4, .inl w)]) (st' := [.inl z, .inl x, .inl w, .inr (.inr (.inl (some (22, 0))))]) (m' := m) (o := none) rfl trivial ?_
      refine ww_call (vs := [.inr (.inr (.inl (some (22, 0)))), .inl w, .inl x, .inl z]) (r := []) (p := 0 < 1) rfl rfl rfl rfl (show 0 < 1 from by omega) (yt109 (c := c) (by omega) w x z hG (by omega)) ?_
      rintro _ _ _ ⟨r4, rfl, rfl, rfl, hr5⟩
      show wW (zK sc) zM117 22 [(0, .inr (.inr (.inl (some (22, 0))))), (1, .inl x), (3, .inl z), (4, .inl w)] [.inl r4] _ _ _
      refine ww_if (t := 35) rfl rfl (by omega) (fun (h6 : r4 = 0) => ?_) (fun (h6 : ¬ (r4 = 0)) => ?_)
      · show wW (zK sc) zM117 35 [(0, .inr (.inr (.inl (some (22, 0))))), (1, .inl x), (3, .inl z), (4, .inl w)] [] _ _ _
        refine ww_go 2 (pc' := 5) (L' := [(4, .inl (w + 1)), (0, .inr (.inr (.inl (some (22, 0))))), (1, .inl x), (3, .inl z)]) (st' := []) (m' := m) (o := none) rfl trivial ?_
        refine ww_sub (L := [(0, .inr (.inr (.inl (some (22, 0))))), (1, .inl x), (3, .inl z), (4, .inl (w + 1))]) ⟨rfl, rfl, rfl, rfl, trivial⟩ rfl rfl ?_
        exact (ih _ (by omega)) z (w + 1) rfl (by omega) (by exact zTl_n hE hT (by omega) (by omega) (hr5.elim (fun z => absurd z.1 (by omega)) (fun z => z.2)))
      · show wW (zK sc) zM117 25 [(0, .inr (.inr (.inl (some (22, 0))))), (1, .inl x), (3, .inl z), (4, .inl w)] [] _ _ _
        have b7 : (-2147483648) ≤ m.1 24 0 w.toNat ∧ m.1 24 0 w.toNat ≤ 2147483647 := hG.1 24 _ rfl _ _
        have t8 := wxor_rg z (m.1 24 0 w.toNat)
        have t9 : (0 ≤ z ∧ z ≤ 255 ∧ 0 ≤ m.1 24 0 w.toNat ∧ m.1 24 0 w.toNat ≤ 255) → (0 ≤ wxor z (m.1 24 0 w.toNat) ∧ wxor z (m.1 24 0 w.toNat) ≤ 255) := fun z => wxor_255 ⟨z.1, z.2.1⟩ z.2.2
        have t10 : (0 ≤ z ∧ z ≤ 65535 ∧ 0 ≤ m.1 24 0 w.toNat ∧ m.1 24 0 w.toNat ≤ 65535) → (0 ≤ wxor z (m.1 24 0 w.toNat) ∧ wxor z (m.1 24 0 w.toNat) ≤ 65535) := fun z => wxor_65535 ⟨z.1, z.2.1⟩ z.2.2
        have t11 : (0 ≤ z ∧ z ≤ 2147483647 ∧ 0 ≤ m.1 24 0 w.toNat ∧ m.1 24 0 w.toNat ≤ 2147483647) → (0 ≤ wxor z (m.1 24 0 w.toNat) ∧ wxor z (m.1 24 0 w.toNat) ≤ 2147483647) := fun z => wxor_2147483647 ⟨z.1, z.2.1⟩ z.2.2
        refine ww_go 9 (pc' := 5) (L' := [(4, .inl (w + 1)), (3, .inl (wxor z (m.1 24 0 w.toNat))), (0, .inr (.inr (.inl (some (22, 0))))), (1, .inl x)]) (st' := []) (m' := m) (o := some ((0 < 1) ∧ (0 < 1 ∧ 0 ≤ w ∧ w < ((24 : Nat) : Int)))) rfl (show (0 < 1) ∧ (0 < 1 ∧ 0 ≤ w ∧ w < ((24 : Nat) : Int)) from by omega) ?_
        refine ww_sub (L := [(0, .inr (.inr (.inl (some (22, 0))))), (1, .inl x), (3, .inl (wxor z (m.1 24 0 w.toNat))), (4, .inl (w + 1))]) ⟨rfl, rfl, rfl, rfl, trivial⟩ rfl rfl ?_
        exact (ih _ (by omega)) (wxor z (m.1 24 0 w.toNat)) (w + 1) rfl (by omega) (by exact zTl_s hE hT (by omega) (by omega) (hr5.elim (fun z => z.2.1) (fun z => absurd z.1 (by omega))) (hr5.elim (fun z => z.2.2) (fun z => absurd z.1 (by omega))))
set_option maxRecDepth 8000 in
/-- Rows.tells -/
theorem yt117 {sc : xSc} {n : Nat × Nat} {m : wm} {c : Int} (hc : 0 ≤ c ∧ c ≤ 1000000) (x : Int) (y : Int) (hG : zB c m) (h0 : -2147483648 ≤ x ∧ x ≤ 2147483647 ∧ 0 ≤ y ∧ y ≤ 255) (hE : zCe m) : wX (zK sc) 117 [.inr (.inr (.inl (some (22, 0)))), .inl x, .inl y] n m (wr (fun vv n1 m1 => ∃ r : Int, vv = some (.inl r) ∧ n = n1 ∧ m = m1 ∧ ((r = 1 ∧ ∃ v, zsq (zKp m x) (zCw m) (zCu0 m) (y.toNat, v)) ∨ (r = 0 ∧ ¬ ∃ v, zsq (zKp m x) (zCw m) (zCu0 m) (y.toNat, v))))) := by
  refine wX_of (N := zM117) rfl (Nat.le_of_ble_eq_true rfl) ?_
  show wW (zK sc) zM117 0 [(0, .inr (.inr (.inl (some (22, 0))))), (1, .inl x), (2, .inl y)] [] n m _
  have bu : 0 ≤ m.1 22 0 3 ∧ m.1 22 0 3 ≤ 24 := hG.1 22 _ rfl _ _
  refine ww_go 4 (pc' := 5) (L' := [(4, .inl 0), (3, .inl y), (0, .inr (.inr (.inl (some (22, 0))))), (1, .inl x), (2, .inl y)]) (st' := []) (m' := m) (o := none) rfl trivial ?_
  refine ww_sub (L := [(0, .inr (.inr (.inl (some (22, 0))))), (1, .inl x), (3, .inl y), (4, .inl 0)]) ⟨rfl, rfl, rfl, rfl, trivial⟩ rfl rfl ?_
  exact (yt117_l5 hc x y hG h0 hE _) y 0 rfl (by omega) (by exact zTl_0 (by omega))
set_option maxRecDepth 8000 in
theorem yt105_l79 {sc : xSc} {n : Nat × Nat} {m0 : wm} {c : Int} (hc : 0 ≤ c ∧ c ≤ 1000000) (x : Int) (y : Int) (v : Int64) (hG : zB c m0) (h0 : 0 ≤ x ∧ x ≤ 4000000 ∧ 0 ≤ y ∧ y ≤ 255 ∧ m0.1 22 0 3 ≤ 23) (hE : zCe m0) (hN : ¬ ∃ v, zsq (zKp m0 x) (zCw m0) (zCu0 m0) (y.toNat, v)) : ∀ (d : Nat), ∀ (z : Int) (g : Int64) (q : Int) (w : Int) (wG : Int) (m : wm), (24 - w).toNat = d → zB c m → zfr (fun k i j => (k = 22 ∧ j = 3) ∨ (k = 23) ∨ (k = 24) ∨ (k = 25)) m0 m → (0 ≤ w ∧ w ≤ m0.1 22 0 3 ∧ 0 ≤ z ∧ z ≤ 255 ∧ m.1 22 0 3 = m0.1 22 0 3) → (zTa m0 x y z wG v g) → (wG.toNat = zCu0 m0) → (q = wand z (-z)) → (zTb m0 m x z q w g) →  wW (zK sc) zM105 79 [(0, .inr (.inr (.inl (some (22, 0))))), (1, .inl x), (5, .inl z), (6, .inr (.inl g)), (8, .inl q), (9, .inl w)] [] n m (wr (fun vv n1 m1 => vv = none ∧ n = n1 ∧ zB c m1 ∧ zfr (fun k i j => (k = 22 ∧ j = 3) ∨ (k = 23) ∨ (k = 24) ∨ (k = 25)) m0 m1 ∧ (zAd m0 m1 x y v))) := by
  intro d
  induction d using Nat.strongRecOn with
  | ind d ih =>
    intro z g q w wG m hd hGm hFm hi hT hw9 hq hB
    have bu0 : 0 ≤ m0.1 22 0 3 ∧ m0.1 22 0 3 ≤ 24 := hG.1 22 _ rfl _ _
    have bu : 0 ≤ m.1 22 0 3 ∧ m.1 22 0 3 ≤ 24 := hGm.1 22 _ rfl _ _
    have b1 : 0 ≤ m.1 22 0 3 ∧ m.1 22 0 3 ≤ 24 := hGm.1 22 _ rfl _ _
    refine ww_go 3 (pc' := 85) (L' := [(0, .inr (.inr (.inl (some (22, 0))))), (1, .inl x), (5, .inl z), (6, .inr (.inl g)), (8, .inl q), (9, .inl w)]) (st' := [.inl (m.1 22 0 3), .inl w]) (m' := m) (o := some ((0 < 1))) rfl (show (0 < 1) from by omega) ?_
    refine ww_ic (t := 142) rfl rfl (by omega) (fun (h2 : m.1 22 0 3 ≤ w) => ?_) (fun (h2 : ¬ (m.1 22 0 3 ≤ w)) => ?_)
    · show wW (zK sc) zM105 142 [(0, .inr (.inr (.inl (some (22, 0))))), (1, .inl x), (5, .inl z), (6, .inr (.inl g)), (8, .inl q), (9, .inl w)] [] _ _ _
      have b3 : 0 ≤ m.1 22 0 3 ∧ m.1 22 0 3 ≤ 24 := hGm.1 22 _ rfl _ _
      refine ww_go 6 (pc' := 152) (L' := [(0, .inr (.inr (.inl (some (22, 0))))), (1, .inl x), (5, .inl z), (6, .inr (.inl g)), (8, .inl q), (9, .inl w)]) (st' := []) (m' := wuI m 23 0 ((m.1 22 0 3).toNat) x) (o := some ((0 < 1) ∧ (0 < 1) ∧ (0 < 1 ∧ 0 ≤ m.1 22 0 3 ∧ m.1 22 0 3 < ((24 : Nat) : Int)))) rfl (show (0 < 1) ∧ (0 < 1) ∧ (0 < 1 ∧ 0 ≤ m.1 22 0 3 ∧ m.1 22 0 3 < ((24 : Nat) : Int)) from by omega) ?_
      obtain ⟨m4, hm4⟩ : ∃ zq9 : wm, zq9 = wuI m 23 0 ((m.1 22 0 3).toNat) x := ⟨_, rfl⟩
      rw [← hm4]
      have hGm4 : zB c m4 := by rw [hm4]; exact zB_wI rfl (show 0 ≤ x ∧ x ≤ 4000000 from by omega) hGm
      have hFm4 : zfr (fun k i j => (k = 22 ∧ j = 3) ∨ (k = 23) ∨ (k = 24) ∨ (k = 25)) m0 m4 := by rw [hm4]; exact zfr_wI hFm (show (23 = 22 ∧ ((m.1 22 0 3).toNat) = 3) ∨ (23 = 23) ∨ (23 = 24) ∨ (23 = 25) from Or.inr (Or.inl rfl))
      have s5 : m4.1 23 0 ((m.1 22 0 3).toNat) = x := by rw [hm4]; exact wuI_self
      have w6 : m4.1 22 0 3 = m.1 22 0 3 := by rw [hm4]; rfl
      have b7 : 0 ≤ m4.1 22 0 3 ∧ m4.1 22 0 3 ≤ 24 := hGm4.1 22 _ rfl _ _
      refine ww_go 6 (pc' := 163) (L' := [(0, .inr (.inr (.inl (some (22, 0))))), (1, .inl x), (5, .inl z), (6, .inr (.inl g)), (8, .inl q), (9, .inl w)]) (st' := []) (m' := wuI m4 24 0 ((m4.1 22 0 3).toNat) z) (o := some ((0 < 1) ∧ (0 < 1) ∧ (0 < 1 ∧ 0 ≤ m4.1 22 0 3 ∧ m4.1 22 0 3 < ((24 : Nat) : Int)))) rfl (show (0 < 1) ∧ (0 < 1) ∧ (0 < 1 ∧ 0 ≤ m4.1 22 0 3 ∧ m4.1 22 0 3 < ((24 : Nat) : Int)) from by omega) ?_
      obtain ⟨m8, hm8⟩ : ∃ zq9 : wm, zq9 = wuI m4 24 0 ((m4.1 22 0 3).toNat) z := ⟨_, rfl⟩
      rw [← hm8]
      have hGm8 : zB c m8 := by rw [hm8]; exact zB_wI rfl (show (-2147483648) ≤ z ∧ z ≤ 2147483647 from by omega) hGm4
      have hFm8 : zfr (fun k i j => (k = 22 ∧ j = 3) ∨ (k = 23) ∨ (k = 24) ∨ (k = 25)) m0 m8 := by rw [hm8]; exact zfr_wI hFm4 (show (24 = 22 ∧ ((m4.1 22 0 3).toNat) = 3) ∨ (24 = 23) ∨ (24 = 24) ∨ (24 = 25) from Or.inr (Or.inr (Or.inl rfl)))
      have s9 : m8.1 24 0 ((m4.1 22 0 3).toNat) = z := by rw [hm8]; exact wuI_self
      have w10 : m8.1 22 0 3 = m4.1 22 0 3 := by rw [hm8]; rfl
      have b11 : 0 ≤ m8.1 22 0 3 ∧ m8.1 22 0 3 ≤ 24 := hGm8.1 22 _ rfl _ _
      refine ww_go 6 (pc' := 174) (L' := [(0, .inr (.inr (.inl (some (22, 0))))), (1, .inl x), (5, .inl z), (6, .inr (.inl g)), (8, .inl q), (9, .inl w)]) (st' := []) (m' := wuL m8 25 0 ((m8.1 22 0 3).toNat) g) (o := some ((0 < 1) ∧ (0 < 1) ∧ (0 < 1 ∧ 0 ≤ m8.1 22 0 3 ∧ m8.1 22 0 3 < ((24 : Nat) : Int)))) rfl (show (0 < 1) ∧ (0 < 1) ∧ (0 < 1 ∧ 0 ≤ m8.1 22 0 3 ∧ m8.1 22 0 3 < ((24 : Nat) : Int)) from by omega) ?_
      obtain ⟨m12, hm12⟩ : ∃ zq9 : wm, zq9 = wuL m8 25 0 ((m8.1 22 0 3).toNat) g := ⟨_, rfl⟩
      rw [← hm12]
      have hGm12 : zB c m12 := by rw [hm12]; exact zB_wL hGm8
      have hFm12 : zfr (fun k i j => (k = 22 ∧ j = 3) ∨ (k = 23) ∨ (k = 24) ∨ (k = 25)) m0 m12 := by rw [hm12]; exact zfr_wL hFm8 (show (25 = 22 ∧ ((m8.1 22 0 3).toNat) = 3) ∨ (25 = 23) ∨ (25 = 24) ∨ (25 = 25) from Or.inr (Or.inr (Or.inr (rfl))))
      have w13 : m12.1 22 0 3 = m8.1 22 0 3 := by rw [hm12]; rfl
      have b14 : 0 ≤ m12.1 22 0 3 ∧ m12.1 22 0 3 ≤ 24 := hGm12.1 22 _ rfl _ _
      refine ww_go 6 (pc' := 184) (L' := [(0, .inr (.inr (.inl (some (22, 0))))), (1, .inl x), (5, .inl z), (6, .inr (.inl g)), (8, .inl q), (9, .inl w)]) (st' := []) (m' := wuI m12 22 0 3 ((m12.1 22 0 3) + 1)) (o := some ((0 < 1) ∧ (0 < 1))) rfl (show (0 < 1) ∧ (0 < 1) from by omega) ?_
      obtain ⟨m15, hm15⟩ : ∃ zq9 : wm, zq9 = wuI m12 22 0 3 ((m12.1 22 0 3) + 1) := ⟨_, rfl⟩
      rw [← hm15]
      have hGm15 : zB c m15 := by rw [hm15]; exact zB_wI rfl (show 0 ≤ (m12.1 22 0 3) + 1 ∧ (m12.1 22 0 3) + 1 ≤ 24 from by omega) hGm12
      have hFm15 : zfr (fun k i j => (k = 22 ∧ j = 3) ∨ (k = 23) ∨ (k = 24) ∨ (k = 25)) m0 m15 := by rw [hm15]; exact zfr_wI hFm12 (show (22 = 22 ∧ 3 = 3) ∨ (22 = 23) ∨ (22 = 24) ∨ (22 = 25) from Or.inl (⟨rfl, rfl⟩))
      have s16 : m15.1 22 0 3 = (m12.1 22 0 3) + 1 := by rw [hm15]; exact wuI_self
      exact ww_rV rfl rfl ⟨rfl, rfl, zB_mono hGm15 (by omega), hFm15, zAd_of hE hT hw9 hN hq hB (by omega) (by omega) hm4 hm8 hm12 hm15 (by unfold zCu0; omega) (by unfold zCu0; omega) (by unfold zCu0; omega)⟩
    · show wW (zK sc) zM105 88 [(0, .inr (.inr (.inl (some (22, 0))))), (1, .inl x), (5, .inl z), (6, .inr (.inl g)), (8, .inl q), (9, .inl w)] [] _ _ _
      have b17 : 0 ≤ m.1 23 0 w.toNat ∧ m.1 23 0 w.toNat ≤ 4000000 := hGm.1 23 _ rfl _ _
      refine ww_go 5 (pc' := 96) (L' := [(0, .inr (.inr (.inl (some (22, 0))))), (1, .inl x), (5, .inl z), (6, .inr (.inl g)), (8, .inl q), (9, .inl w)]) (st' := [.inl x, .inl (m.1 23 0 w.toNat)]) (m' := m) (o := some ((0 < 1) ∧ (0 < 1 ∧ 0 ≤ w ∧ w < ((24 : Nat) : Int)))) rfl (show (0 < 1) ∧ (0 < 1 ∧ 0 ≤ w ∧ w < ((24 : Nat) : Int)) from by omega) ?_
      refine ww_ic (t := 136) rfl rfl (by omega) (fun (h18 : m.1 23 0 w.toNat ≠ x) => ?_) (fun (h18 : ¬ (m.1 23 0 w.toNat ≠ x)) => ?_)
      · show wW (zK sc) zM105 136 [(0, .inr (.inr (.inl (some (22, 0))))), (1, .inl x), (5, .inl z), (6, .inr (.inl g)), (8, .inl q), (9, .inl w)] [] _ _ _
        refine ww_go 2 (pc' := 79) (L' := [(9, .inl (w + 1)), (0, .inr (.inr (.inl (some (22, 0))))), (1, .inl x), (5, .inl z), (6, .inr (.inl g)), (8, .inl q)]) (st' := []) (m' := m) (o := none) rfl trivial ?_
        refine ww_sub (L := [(0, .inr (.inr (.inl (some (22, 0))))), (1, .inl x), (5, .inl z), (6, .inr (.inl g)), (8, .inl q), (9, .inl (w + 1))]) ⟨rfl, rfl, rfl, rfl, rfl, rfl, trivial⟩ rfl rfl ?_
        exact (ih _ (by omega)) z g q (w + 1) wG m rfl (zB_mono hGm (by omega)) hFm (by omega) (by exact hT) (by exact hw9) (by exact hq) (by exact zTb_n hB (by omega) (by omega))
      · show wW (zK sc) zM105 99 [(0, .inr (.inr (.inl (some (22, 0))))), (1, .inl x), (5, .inl z), (6, .inr (.inl g)), (8, .inl q), (9, .inl w)] [] _ _ _
        have b19 : (-2147483648) ≤ m.1 24 0 w.toNat ∧ m.1 24 0 w.toNat ≤ 2147483647 := hGm.1 24 _ rfl _ _
        have t20 := wand_rg (m.1 24 0 w.toNat) q
        refine ww_go 6 (pc' := 109) (L' := [(0, .inr (.inr (.inl (some (22, 0))))), (1, .inl x), (5, .inl z), (6, .inr (.inl g)), (8, .inl q), (9, .inl w)]) (st' := [.inl (wand (m.1 24 0 w.toNat) q)]) (m' := m) (o := some ((0 < 1) ∧ (0 < 1 ∧ 0 ≤ w ∧ w < ((24 : Nat) : Int)))) rfl (show (0 < 1) ∧ (0 < 1 ∧ 0 ≤ w ∧ w < ((24 : Nat) : Int)) from by omega) ?_
        refine ww_if (t := 136) rfl rfl (by omega) (fun (h21 : wand (m.1 24 0 w.toNat) q = 0) => ?_) (fun (h21 : ¬ (wand (m.1 24 0 w.toNat) q = 0)) => ?_)
        · show wW (zK sc) zM105 136 [(0, .inr (.inr (.inl (some (22, 0))))), (1, .inl x), (5, .inl z), (6, .inr (.inl g)), (8, .inl q), (9, .inl w)] [] _ _ _
          refine ww_go 2 (pc' := 79) (L' := [(9, .inl (w + 1)), (0, .inr (.inr (.inl (some (22, 0))))), (1, .inl x), (5, .inl z), (6, .inr (.inl g)), (8, .inl q)]) (st' := []) (m' := m) (o := none) rfl trivial ?_
          refine ww_sub (L := [(0, .inr (.inr (.inl (some (22, 0))))), (1, .inl x), (5, .inl z), (6, .inr (.inl g)), (8, .inl q), (9, .inl (w + 1))]) ⟨rfl, rfl, rfl, rfl, rfl, rfl, trivial⟩ rfl rfl ?_
          exact (ih _ (by omega)) z g q (w + 1) wG m rfl (zB_mono hGm (by omega)) hFm (by omega) (by exact hT) (by exact hw9) (by exact hq) (by exact zTb_n hB (by omega) (by omega))
        · show wW (zK sc) zM105 112 [(0, .inr (.inr (.inl (some (22, 0))))), (1, .inl x), (5, .inl z), (6, .inr (.inl g)), (8, .inl q), (9, .inl w)] [] _ _ _
          have b22 : (-2147483648) ≤ m.1 24 0 w.toNat ∧ m.1 24 0 w.toNat ≤ 2147483647 := hGm.1 24 _ rfl _ _
          have t23 := wxor_rg (m.1 24 0 w.toNat) z
          have t24 : (0 ≤ m.1 24 0 w.toNat ∧ m.1 24 0 w.toNat ≤ 255 ∧ 0 ≤ z ∧ z ≤ 255) → (0 ≤ wxor (m.1 24 0 w.toNat) z ∧ wxor (m.1 24 0 w.toNat) z ≤ 255) := fun z => wxor_255 ⟨z.1, z.2.1⟩ z.2.2
          have t25 : (0 ≤ m.1 24 0 w.toNat ∧ m.1 24 0 w.toNat ≤ 65535 ∧ 0 ≤ z ∧ z ≤ 65535) → (0 ≤ wxor (m.1 24 0 w.toNat) z ∧ wxor (m.1 24 0 w.toNat) z ≤ 65535) := fun z => wxor_65535 ⟨z.1, z.2.1⟩ z.2.2
          have t26 : (0 ≤ m.1 24 0 w.toNat ∧ m.1 24 0 w.toNat ≤ 2147483647 ∧ 0 ≤ z ∧ z ≤ 2147483647) → (0 ≤ wxor (m.1 24 0 w.toNat) z ∧ wxor (m.1 24 0 w.toNat) z ≤ 2147483647) := fun z => wxor_2147483647 ⟨z.1, z.2.1⟩ z.2.2
          refine ww_go 8 (pc' := 124) (L' := [(0, .inr (.inr (.inl (some (22, 0))))), (1, .inl x), (5, .inl z), (6, .inr (.inl g)), (8, .inl q), (9, .inl w)]) (st' := []) (m' := wuI m 24 0 w.toNat (wxor (m.1 24 0 w.toNat) z)) (o := some ((0 < 1) ∧ (0 < 1 ∧ 0 ≤ w ∧ w < ((24 : Nat) : Int)) ∧ (0 < 1 ∧ 0 ≤ w ∧ w < ((24 : Nat) : Int)))) rfl (show (0 < 1) ∧ (0 < 1 ∧ 0 ≤ w ∧ w < ((24 : Nat) : Int)) ∧ (0 < 1 ∧ 0 ≤ w ∧ w < ((24 : Nat) : Int)) from by omega) ?_
          obtain ⟨m27, hm27⟩ : ∃ zq9 : wm, zq9 = wuI m 24 0 w.toNat (wxor (m.1 24 0 w.toNat) z) := ⟨_, rfl⟩
          rw [← hm27]
          have hGm27 : zB c m27 := by rw [hm27]; exact zB_wI rfl (show (-2147483648) ≤ wxor (m.1 24 0 w.toNat) z ∧ wxor (m.1 24 0 w.toNat) z ≤ 2147483647 from by omega) hGm
          have hFm27 : zfr (fun k i j => (k = 22 ∧ j = 3) ∨ (k = 23) ∨ (k = 24) ∨ (k = 25)) m0 m27 := by rw [hm27]; exact zfr_wI hFm (show (24 = 22 ∧ w.toNat = 3) ∨ (24 = 23) ∨ (24 = 24) ∨ (24 = 25) from Or.inr (Or.inr (Or.inl rfl)))
          have s28 : m27.1 24 0 w.toNat = wxor (m.1 24 0 w.toNat) z := by rw [hm27]; exact wuI_self
          have w29 : m27.1 22 0 3 = m.1 22 0 3 := by rw [hm27]; rfl
          refine ww_go 8 (pc' := 136) (L' := [(0, .inr (.inr (.inl (some (22, 0))))), (1, .inl x), (5, .inl z), (6, .inr (.inl g)), (8, .inl q), (9, .inl w)]) (st' := []) (m' := wuL m27 25 0 w.toNat ((m27.2.1 25 0 w.toNat) ^^^ g)) (o := some ((0 < 1) ∧ (0 < 1 ∧ 0 ≤ w ∧ w < ((24 : Nat) : Int)) ∧ (0 < 1 ∧ 0 ≤ w ∧ w < ((24 : Nat) : Int)))) rfl (show (0 < 1) ∧ (0 < 1 ∧ 0 ≤ w ∧ w < ((24 : Nat) : Int)) ∧ (0 < 1 ∧ 0 ≤ w ∧ w < ((24 : Nat) : Int)) from by omega) ?_
          obtain ⟨m30, hm30⟩ : ∃ zq9 : wm, zq9 = wuL m27 25 0 w.toNat ((m27.2.1 25 0 w.toNat) ^^^ g) := ⟨_, rfl⟩
          rw [← hm30]
          have hGm30 : zB c m30 := by rw [hm30]; exact zB_wL hGm27
          have hFm30 : zfr (fun k i j => (k = 22 ∧ j = 3) ∨ (k = 23) ∨ (k = 24) ∨ (k = 25)) m0 m30 := by rw [hm30]; exact zfr_wL hFm27 (show (25 = 22 ∧ w.toNat = 3) ∨ (25 = 23) ∨ (25 = 24) ∨ (25 = 25) from Or.inr (Or.inr (Or.inr (rfl))))
          have w31 : m30.1 22 0 3 = m27.1 22 0 3 := by rw [hm30]; rfl
          refine ww_go 2 (pc' := 79) (L' := [(9, .inl (w + 1)), (0, .inr (.inr (.inl (some (22, 0))))), (1, .inl x), (5, .inl z), (6, .inr (.inl g)), (8, .inl q)]) (st' := []) (m' := m30) (o := none) rfl trivial ?_
          refine ww_sub (L := [(0, .inr (.inr (.inl (some (22, 0))))), (1, .inl x), (5, .inl z), (6, .inr (.inl g)), (8, .inl q), (9, .inl (w + 1))]) ⟨rfl, rfl, rfl, rfl, rfl, rfl, trivial⟩ rfl rfl ?_
          exact (ih _ (by omega)) z g q (w + 1) wG m30 rfl (zB_mono hGm30 (by omega)) hFm30 (by omega) (by exact hT) (by exact hw9) (by exact hq) (by exact zTb_s hB (by omega) (by omega) (by omega) hm27 hm30)
set_option maxRecDepth 8000 in
theorem yt105_l17 {sc : xSc} {n : Nat × Nat} {m0 : wm} {c : Int} (hc : 0 ≤ c ∧ c ≤ 1000000) (x : Int) (y : Int) (v : Int64) (hG : zB c m0) (h0 : 0 ≤ x ∧ x ≤ 4000000 ∧ 0 ≤ y ∧ y ≤ 255 ∧ m0.1 22 0 3 ≤ 23) (hE : zCe m0) (hN : ¬ ∃ v, zsq (zKp m0 x) (zCw m0) (zCu0 m0) (y.toNat, v)) : ∀ (d : Nat), ∀ (z : Int) (g : Int64) (w : Int), (24 - w).toNat = d → (0 ≤ w ∧ w ≤ m0.1 22 0 3 ∧ 0 ≤ z ∧ z ≤ 255) → (zTa m0 x y z w v g) →  wW (zK sc) zM105 17 [(0, .inr (.inr (.inl (some (22, 0))))), (1, .inl x), (5, .inl z), (6, .inr (.inl g)), (8, .inl w)] [] n m0 (wr (fun vv n1 m1 => vv = none ∧ n = n1 ∧ zB c m1 ∧ zfr (fun k i j => (k = 22 ∧ j = 3) ∨ (k = 23) ∨ (k = 24) ∨ (k = 25)) m0 m1 ∧ (zAd m0 m1 x y v))) := by
  intro d
  induction d using Nat.strongRecOn with
  | ind d ih =>
    intro z g w hd hi hT
    have bu0 : 0 ≤ m0.1 22 0 3 ∧ m0.1 22 0 3 ≤ 24 := hG.1 22 _ rfl _ _
    have hM9 : w < m0.1 22 0 3 → 0 ≤ m0.1 24 0 w.toNat ∧ m0.1 24 0 w.toNat ≤ 255 := fun z => hE.1 w.toNat (by unfold zCu0; omega)
    have hF : zfr (fun k i j => (k = 22 ∧ j = 3) ∨ (k = 23) ∨ (k = 24) ∨ (k = 25)) m0 m0 := zfr_rf
    have b1 : 0 ≤ m0.1 22 0 3 ∧ m0.1 22 0 3 ≤ 24 := hG.1 22 _ rfl _ _
    refine ww_go 3 (pc' := 23) (L' := [(0, .inr (.inr (.inl (some (22, 0))))), (1, .inl x), (5, .inl z), (6, .inr (.inl g)), (8, .inl w)]) (st' := [.inl (m0.1 22 0 3), .inl w]) (m' := m0) (o := some ((0 < 1))) rfl (show (0 < 1) from by omega) ?_
    refine ww_ic (t := 68) rfl rfl (by omega) (fun (h2 : m0.1 22 0 3 ≤ w) => ?_) (fun (h2 : ¬ (m0.1 22 0 3 ≤ w)) => ?_)
    · show wW (zK sc) zM105 68 [(0, .inr (.inr (.inl (some (22, 0))))), (1, .inl x), (5, .inl z), (6, .inr (.inl g)), (8, .inl w)] [] _ _ _
      have t3 := wand_rg z (-z)
      refine ww_go 7 (pc' := 79) (L' := [(9, .inl 0), (8, .inl (wand z (-z))), (0, .inr (.inr (.inl (some (22, 0))))), (1, .inl x), (5, .inl z), (6, .inr (.inl g))]) (st' := []) (m' := m0) (o := none) rfl trivial ?_
      refine ww_sub (L := [(0, .inr (.inr (.inl (some (22, 0))))), (1, .inl x), (5, .inl z), (6, .inr (.inl g)), (8, .inl (wand z (-z))), (9, .inl 0)]) ⟨rfl, rfl, rfl, rfl, rfl, rfl, trivial⟩ rfl rfl ?_
      exact (yt105_l79 hc x y v hG h0 hE hN _) z g (wand z (-z)) 0 w m0 rfl (zB_mono hG (by omega)) hF (by omega) (by exact hT) (by unfold zCu0; omega) (by rfl) (by exact zTb_0)
    · show wW (zK sc) zM105 26 [(0, .inr (.inr (.inl (some (22, 0))))), (1, .inl x), (5, .inl z), (6, .inr (.inl g)), (8, .inl w)] [] _ _ _
      refine ww_go 4 (pc' := 32) (L' := [(0, .inr (.inr (.inl (some (22, 0))))), (1, .inl x), (5, .inl z), (6, .inr (.inl g)), (8, .inl w)]) (st' := [.inl z, .inl x, .inl w, .inr (.inr (.inl (some (22, 0))))]) (m' := m0) (o := none) rfl trivial ?_
      refine ww_call (vs := [.inr (.inr (.inl (some (22, 0)))), .inl w, .inl x, .inl z]) (r := []) (p := 0 < 1) rfl rfl rfl rfl (show 0 < 1 from by omega) (yt109 (c := c) (by omega) w x z hG (by omega)) ?_
      rintro _ _ _ ⟨r4, rfl, rfl, rfl, hr5⟩
      show wW (zK sc) zM105 35 [(0, .inr (.inr (.inl (some (22, 0))))), (1, .inl x), (5, .inl z), (6, .inr (.inl g)), (8, .inl w)] [.inl r4] _ _ _
      refine ww_if (t := 62) rfl rfl (by omega) (fun (h6 : r4 = 0) => ?_) (fun (h6 : ¬ (r4 = 0)) => ?_)
      · show wW (zK sc) zM105 62 [(0, .inr (.inr (.inl (some (22, 0))))), (1, .inl x), (5, .inl z), (6, .inr (.inl g)), (8, .inl w)] [] _ _ _
        refine ww_go 2 (pc' := 17) (L' := [(8, .inl (w + 1)), (0, .inr (.inr (.inl (some (22, 0))))), (1, .inl x), (5, .inl z), (6, .inr (.inl g))]) (st' := []) (m' := m0) (o := none) rfl trivial ?_
        refine ww_sub (L := [(0, .inr (.inr (.inl (some (22, 0))))), (1, .inl x), (5, .inl z), (6, .inr (.inl g)), (8, .inl (w + 1))]) ⟨rfl, rfl, rfl, rfl, rfl, trivial⟩ rfl rfl ?_
        exact (ih _ (by omega)) z g (w + 1) rfl (by omega) (by exact zTa_n hE hT (by omega) (by omega) (hr5.elim (fun z => absurd z.1 (by omega)) (fun z => z.2)))
      · show wW (zK sc) zM105 38 [(0, .inr (.inr (.inl (some (22, 0))))), (1, .inl x), (5, .inl z), (6, .inr (.inl g)), (8, .inl w)] [] _ _ _
        have b7 : (-2147483648) ≤ m0.1 24 0 w.toNat ∧ m0.1 24 0 w.toNat ≤ 2147483647 := hG.1 24 _ rfl _ _
        have t8 := wxor_rg z (m0.1 24 0 w.toNat)
        have t9 : (0 ≤ z ∧ z ≤ 255 ∧ 0 ≤ m0.1 24 0 w.toNat ∧ m0.1 24 0 w.toNat ≤ 255) → (0 ≤ wxor z (m0.1 24 0 w.toNat) ∧ wxor z (m0.1 24 0 w.toNat) ≤ 255) := fun z => wxor_255 ⟨z.1, z.2.1⟩ z.2.2
        have t10 : (0 ≤ z ∧ z ≤ 65535 ∧ 0 ≤ m0.1 24 0 w.toNat ∧ m0.1 24 0 w.toNat ≤ 65535) → (0 ≤ wxor z (m0.1 24 0 w.toNat) ∧ wxor z (m0.1 24 0 w.toNat) ≤ 65535) := fun z => wxor_65535 ⟨z.1, z.2.1⟩ z.2.2
        have t11 : (0 ≤ z ∧ z ≤ 2147483647 ∧ 0 ≤ m0.1 24 0 w.toNat ∧ m0.1 24 0 w.toNat ≤ 2147483647) → (0 ≤ wxor z (m0.1 24 0 w.toNat) ∧ wxor z (m0.1 24 0 w.toNat) ≤ 2147483647) := fun z => wxor_2147483647 ⟨z.1, z.2.1⟩ z.2.2
        refine ww_go 16 (pc' := 17) (L' := [(8, .inl (w + 1)), (6, .inr (.inl (g ^^^ (m0.2.1 25 0 w.toNat)))), (5, .inl (wxor z (m0.1 24 0 w.toNat))), (0, .inr (.inr (.inl (some (22, 0))))), (1, .inl x)]) (st' := []) (m' := m0) (o := some ((0 < 1) ∧ (0 < 1 ∧ 0 ≤ w ∧ w < ((24 : Nat) : Int)) ∧ (0 < 1) ∧ (0 < 1 ∧ 0 ≤ w ∧ w < ((24 : Nat) : Int)))) rfl (show (0 < 1) ∧ (0 < 1 ∧ 0 ≤ w ∧ w < ((24 : Nat) : Int)) ∧ (0 < 1) ∧ (0 < 1 ∧ 0 ≤ w ∧ w < ((24 : Nat) : Int)) from by omega) ?_
        refine ww_sub (L := [(0, .inr (.inr (.inl (some (22, 0))))), (1, .inl x), (5, .inl (wxor z (m0.1 24 0 w.toNat))), (6, .inr (.inl (g ^^^ (m0.2.1 25 0 w.toNat)))), (8, .inl (w + 1))]) ⟨rfl, rfl, rfl, rfl, rfl, trivial⟩ rfl rfl ?_
        exact (ih _ (by omega)) (wxor z (m0.1 24 0 w.toNat)) (g ^^^ (m0.2.1 25 0 w.toNat)) (w + 1) rfl (by omega) (by exact zTa_s hE hT (by omega) (by omega) (hr5.elim (fun z => z.2.1) (fun z => absurd z.1 (by omega))) (hr5.elim (fun z => z.2.2) (fun z => absurd z.1 (by omega))))
set_option maxRecDepth 8000 in
/-- Rows.add -/
theorem yt105 {sc : xSc} {n : Nat × Nat} {m0 : wm} {c : Int} (hc : 0 ≤ c ∧ c ≤ 1000000) (x : Int) (y : Int) (v : Int64) (hG : zB c m0) (h0 : 0 ≤ x ∧ x ≤ 4000000 ∧ 0 ≤ y ∧ y ≤ 255 ∧ m0.1 22 0 3 ≤ 23) (hE : zCe m0) (hN : ¬ ∃ v, zsq (zKp m0 x) (zCw m0) (zCu0 m0) (y.toNat, v)) : wX (zK sc) 105 [.inr (.inr (.inl (some (22, 0)))), .inl x, .inl y, .inr (.inl v)] n m0 (wr (fun vv n1 m1 => vv = none ∧ n = n1 ∧ zB c m1 ∧ zfr (fun k i j => (k = 22 ∧ j = 3) ∨ (k = 23) ∨ (k = 24) ∨ (k = 25)) m0 m1 ∧ (zAd m0 m1 x y v))) := by
  refine wX_of (N := zM105) rfl (Nat.le_of_ble_eq_true rfl) ?_
  show wW (zK sc) zM105 0 [(0, .inr (.inr (.inl (some (22, 0))))), (1, .inl x), (2, .inl y), (3, .inr (.inl v))] [] n m0 _
  have hF : zfr (fun k i j => (k = 22 ∧ j = 3) ∨ (k = 23) ∨ (k = 24) ∨ (k = 25)) m0 m0 := zfr_rf
  have bu0 : 0 ≤ m0.1 22 0 3 ∧ m0.1 22 0 3 ≤ 24 := hG.1 22 _ rfl _ _
  refine ww_go 1 (pc' := 1) (L' := [(0, .inr (.inr (.inl (some (22, 0))))), (1, .inl x), (2, .inl y), (3, .inr (.inl v))]) (st' := [.inr (.inr (.inl (some (22, 0))))]) (m' := m0) (o := none) rfl trivial ?_
  refine ww_call (vs := [.inr (.inr (.inl (some (22, 0))))]) (r := []) (p := 0 < 1) rfl rfl rfl rfl (show 0 < 1 from by omega) (yt110 (c := c) (by omega) hG) ?_
  rintro _ _ _ ⟨r1, rfl, rfl, rfl, hr2⟩
  show wW (zK sc) zM105 4 [(0, .inr (.inr (.inl (some (22, 0))))), (1, .inl x), (2, .inl y), (3, .inr (.inl v))] [.inl r1] _ _ _
  refine ww_if (t := 8) rfl rfl (by omega) (fun (h3 : r1 = 0) => ?_) (fun (h3 : ¬ (r1 = 0)) => ?_)
  · show wW (zK sc) zM105 8 [(0, .inr (.inr (.inl (some (22, 0))))), (1, .inl x), (2, .inl y), (3, .inr (.inl v))] [] _ _ _
    refine ww_go 6 (pc' := 17) (L' := [(8, .inl 0), (6, .inr (.inl v)), (5, .inl y), (0, .inr (.inr (.inl (some (22, 0))))), (1, .inl x), (2, .inl y), (3, .inr (.inl v))]) (st' := []) (m' := m0) (o := none) rfl trivial ?_
    refine ww_sub (L := [(0, .inr (.inr (.inl (some (22, 0))))), (1, .inl x), (5, .inl y), (6, .inr (.inl v)), (8, .inl 0)]) ⟨rfl, rfl, rfl, rfl, rfl, trivial⟩ rfl rfl ?_
    exact (yt105_l17 hc x y v hG h0 hE hN _) y v 0 rfl (by omega) (by exact zTa_0 (by omega))
  · show wW (zK sc) zM105 7 [(0, .inr (.inr (.inl (some (22, 0))))), (1, .inl x), (2, .inl y), (3, .inr (.inl v))] [] _ _ _
    omega
set_option maxRecDepth 8000 in
theorem yt115_l2 {sc : xSc} {n : Nat × Nat} {m : wm} {c : Int} (hc : 0 ≤ c ∧ c ≤ 1000000) (x : Int) (y : Int) (hG : zB c m) (h0 : -2147483648 ≤ x ∧ x ≤ 2147483647 ∧ -2147483648 ≤ y ∧ y ≤ 2147483647) (hU : ∀ i, i < zCu0 m → m.1 23 0 i = x → m.1 24 0 i = wshl 1 y → ∀ j, j < zCu0 m → m.1 23 0 j = x → m.1 24 0 j = wshl 1 y → i = j) : ∀ (d : Nat), ∀ (w : Int), (24 - w).toNat = d → (0 ≤ w ∧ w ≤ m.1 22 0 3) → (∀ i : Nat, (i : Int) < w → m.1 23 0 i = x → ¬ (m.1 24 0 i = wshl 1 y)) →  wW (zK sc) zM115 2 [(0, .inr (.inr (.inl (some (22, 0))))), (1, .inl x), (2, .inl y), (3, .inl w)] [] n m (wr (fun vv n1 m1 => ∃ r : Int64, vv = some (.inr (.inl r)) ∧ n = n1 ∧ m = m1 ∧ (∀ i, i < zCu0 m → m.1 23 0 i = x → m.1 24 0 i = wshl 1 y → r = m.2.1 25 0 i))) := by
  intro d
  induction d using Nat.strongRecOn with
  | ind d ih =>
    intro w hd hi hF
    have bu : 0 ≤ m.1 22 0 3 ∧ m.1 22 0 3 ≤ 24 := hG.1 22 _ rfl _ _
    have b1 : 0 ≤ m.1 22 0 3 ∧ m.1 22 0 3 ≤ 24 := hG.1 22 _ rfl _ _
    refine ww_go 3 (pc' := 7) (L' := [(0, .inr (.inr (.inl (some (22, 0))))), (1, .inl x), (2, .inl y), (3, .inl w)]) (st' := [.inl (m.1 22 0 3), .inl w]) (m' := m) (o := some ((0 < 1))) rfl (show (0 < 1) from by omega) ?_
    refine ww_ic (t := 45) rfl rfl (by omega) (fun (h2 : m.1 22 0 3 ≤ w) => ?_) (fun (h2 : ¬ (m.1 22 0 3 ≤ w)) => ?_)
    · show wW (zK sc) zM115 45 [(0, .inr (.inr (.inl (some (22, 0))))), (1, .inl x), (2, .inl y), (3, .inl w)] [] _ _ _
      refine ww_go 1 (pc' := 46) (L' := [(0, .inr (.inr (.inl (some (22, 0))))), (1, .inl x), (2, .inl y), (3, .inl w)]) (st' := [.inr (.inl (Int64.ofNat 0))]) (m' := m) (o := none) rfl trivial ?_
      exact ww_rL rfl rfl ⟨_, rfl, rfl, rfl, by exact fun i hi hk hM => absurd hM (hF i (by unfold zCu0 at hi; omega) hk)⟩
    · show wW (zK sc) zM115 10 [(0, .inr (.inr (.inl (some (22, 0))))), (1, .inl x), (2, .inl y), (3, .inl w)] [] _ _ _
      have b3 : 0 ≤ m.1 23 0 w.toNat ∧ m.1 23 0 w.toNat ≤ 4000000 := hG.1 23 _ rfl _ _
      refine ww_go 5 (pc' := 17) (L' := [(0, .inr (.inr (.inl (some (22, 0))))), (1, .inl x), (2, .inl y), (3, .inl w)]) (st' := [.inl x, .inl (m.1 23 0 w.toNat)]) (m' := m) (o := some ((0 < 1) ∧ (0 < 1 ∧ 0 ≤ w ∧ w < ((24 : Nat) : Int)))) rfl (show (0 < 1) ∧ (0 < 1 ∧ 0 ≤ w ∧ w < ((24 : Nat) : Int)) from by omega) ?_
      refine ww_ic (t := 39) rfl rfl (by omega) (fun (h4 : m.1 23 0 w.toNat ≠ x) => ?_) (fun (h4 : ¬ (m.1 23 0 w.toNat ≠ x)) => ?_)
      · show wW (zK sc) zM115 39 [(0, .inr (.inr (.inl (some (22, 0))))), (1, .inl x), (2, .inl y), (3, .inl w)] [] _ _ _
        refine ww_go 2 (pc' := 2) (L' := [(3, .inl (w + 1)), (0, .inr (.inr (.inl (some (22, 0))))), (1, .inl x), (2, .inl y)]) (st' := []) (m' := m) (o := none) rfl trivial ?_
        refine ww_sub (L := [(0, .inr (.inr (.inl (some (22, 0))))), (1, .inl x), (2, .inl y), (3, .inl (w + 1))]) ⟨rfl, rfl, rfl, rfl, trivial⟩ rfl rfl ?_
        exact (ih _ (by omega)) (w + 1) rfl (by omega) (by exact fun i hi hk hM => (Decidable.em ((i : Int) < w)).elim (fun z => hF i z hk hM) (fun z => (by have e9 : i = w.toNat := (by omega); subst e9; omega)))
      · show wW (zK sc) zM115 20 [(0, .inr (.inr (.inl (some (22, 0))))), (1, .inl x), (2, .inl y), (3, .inl w)] [] _ _ _
        have b5 : (-2147483648) ≤ m.1 24 0 w.toNat ∧ m.1 24 0 w.toNat ≤ 2147483647 := hG.1 24 _ rfl _ _
        have t6 := wshl_rg 1 y
        have t7 : 0 ≤ y ∧ y ≤ 30 → 1 ≤ wshl 1 y := wshl1_rg
        refine ww_go 7 (pc' := 29) (L' := [(0, .inr (.inr (.inl (some (22, 0))))), (1, .inl x), (2, .inl y), (3, .inl w)]) (st' := [.inl (wshl 1 y), .inl (m.1 24 0 w.toNat)]) (m' := m) (o := some ((0 < 1) ∧ (0 < 1 ∧ 0 ≤ w ∧ w < ((24 : Nat) : Int)))) rfl (show (0 < 1) ∧ (0 < 1 ∧ 0 ≤ w ∧ w < ((24 : Nat) : Int)) from by omega) ?_
        refine ww_ic (t := 39) rfl rfl (by omega) (fun (h8 : m.1 24 0 w.toNat ≠ wshl 1 y) => ?_) (fun (h8 : ¬ (m.1 24 0 w.toNat ≠ wshl 1 y)) => ?_)
        · show wW (zK sc) zM115 39 [(0, .inr (.inr (.inl (some (22, 0))))), (1, .inl x), (2, .inl y), (3, .inl w)] [] _ _ _
          refine ww_go 2 (pc' := 2) (L' := [(3, .inl (w + 1)), (0, .inr (.inr (.inl (some (22, 0))))), (1, .inl x), (2, .inl y)]) (st' := []) (m' := m) (o := none) rfl trivial ?_
          refine ww_sub (L := [(0, .inr (.inr (.inl (some (22, 0))))), (1, .inl x), (2, .inl y), (3, .inl (w + 1))]) ⟨rfl, rfl, rfl, rfl, trivial⟩ rfl rfl ?_
          exact (ih _ (by omega)) (w + 1) rfl (by omega) (by exact fun i hi hk hM => (Decidable.em ((i : Int) < w)).elim (fun z => hF i z hk hM) (fun z => (by have e9 : i = w.toNat := (by omega); subst e9; omega)))
        · show wW (zK sc) zM115 32 [(0, .inr (.inr (.inl (some (22, 0))))), (1, .inl x), (2, .inl y), (3, .inl w)] [] _ _ _
          refine ww_go 4 (pc' := 38) (L' := [(0, .inr (.inr (.inl (some (22, 0))))), (1, .inl x), (2, .inl y), (3, .inl w)]) (st' := [.inr (.inl (m.2.1 25 0 w.toNat))]) (m' := m) (o := some ((0 < 1) ∧ (0 < 1 ∧ 0 ≤ w ∧ w < ((24 : Nat) : Int)))) rfl (show (0 < 1) ∧ (0 < 1 ∧ 0 ≤ w ∧ w < ((24 : Nat) : Int)) from by omega) ?_
          exact ww_rL rfl rfl ⟨_, rfl, rfl, rfl, by exact fun i hi hk hM => (by have e9 := hU i hi hk hM w.toNat (by unfold zCu0; omega) (by omega) (by omega); rw [e9])⟩
set_option maxRecDepth 8000 in
/-- Rows.piece -/
theorem yt115 {sc : xSc} {n : Nat × Nat} {m : wm} {c : Int} (hc : 0 ≤ c ∧ c ≤ 1000000) (x : Int) (y : Int) (hG : zB c m) (h0 : -2147483648 ≤ x ∧ x ≤ 2147483647 ∧ -2147483648 ≤ y ∧ y ≤ 2147483647) (hU : ∀ i, i < zCu0 m → m.1 23 0 i = x → m.1 24 0 i = wshl 1 y → ∀ j, j < zCu0 m → m.1 23 0 j = x → m.1 24 0 j = wshl 1 y → i = j) : wX (zK sc) 115 [.inr (.inr (.inl (some (22, 0)))), .inl x, .inl y] n m (wr (fun vv n1 m1 => ∃ r : Int64, vv = some (.inr (.inl r)) ∧ n = n1 ∧ m = m1 ∧ (∀ i, i < zCu0 m → m.1 23 0 i = x → m.1 24 0 i = wshl 1 y → r = m.2.1 25 0 i))) := by
  refine wX_of (N := zM115) rfl (Nat.le_of_ble_eq_true rfl) ?_
  show wW (zK sc) zM115 0 [(0, .inr (.inr (.inl (some (22, 0))))), (1, .inl x), (2, .inl y)] [] n m _
  have bu : 0 ≤ m.1 22 0 3 ∧ m.1 22 0 3 ≤ 24 := hG.1 22 _ rfl _ _
  refine ww_go 2 (pc' := 2) (L' := [(3, .inl 0), (0, .inr (.inr (.inl (some (22, 0))))), (1, .inl x), (2, .inl y)]) (st' := []) (m' := m) (o := none) rfl trivial ?_
  refine ww_sub (L := [(0, .inr (.inr (.inl (some (22, 0))))), (1, .inl x), (2, .inl y), (3, .inl 0)]) ⟨rfl, rfl, rfl, rfl, trivial⟩ rfl rfl ?_
  exact (yt115_l2 hc x y hG h0 hU _) 0 rfl (by omega) (by exact fun i hi => absurd hi (by omega))
set_option maxRecDepth 8000 in
theorem yt247_l56 {sc : xSc} {n : Nat × Nat} {m : wm} {c : Int} (hc : 0 ≤ c ∧ c ≤ 1000000) (q : Int) (b : Int) (x : Int) (hG : zB c m) (h0 : -2147483648 ≤ q ∧ q ≤ 2147483647 ∧ -2147483648 ≤ b ∧ b ≤ 2147483647 ∧ 0 ≤ x ∧ x ≤ 255) (hb : zRb m) : ∀ (d : Nat), (∀ (y : Int) (u : Int), (2147483647 - u).toNat * 100 + 99 = d → (0 ≤ y ∧ y ≤ 24 ∧ 0 ≤ u ∧ u ≤ 2147483647) → (y = ((zct (zRp m q b) (zRu m) : Nat) : Int)) → (∀ s : Nat, (s : Int) < u → (zsf (zRp m q b) (zRw m) s (zRu m)).1 ≠ x.toNat) →  wW (zK sc) zM247 56 [(0, .inr (.inr (.inl (some (34, 0))))), (1, .inl q), (2, .inl b), (3, .inl x), (4, .inl y), (5, .inl u)] [] n m (wr (fun vv n1 m1 => ∃ r : Int, vv = some (.inl r) ∧ n = n1 ∧ m = m1 ∧ ((0 ≤ r ∧ r ≤ 2147483647 ∧ (zsf (zRp m q b) (zRw m) r.toNat (zRu m)).1 = x.toNat) ∨ (r = -1 ∧ ¬ ∃ v, zsq (zRp m q b) (zRw m) (zRu m) (x.toNat, v)))))) ∧ (∀ (y : Int) (u : Int) (w : Int) (k : Int) (i : Int), (2147483647 - u).toNat * 100 + (24 - i).toNat = d → (0 ≤ y ∧ y ≤ 24 ∧ 0 ≤ u ∧ u ≤ 2147483646 ∧ 0 ≤ w ∧ w ≤ 255 ∧ 0 ≤ k ∧ k ≤ i ∧ 0 ≤ i ∧ i ≤ m.1 34 0 30) → (y = ((zct (zRp m q b) (zRu m) : Nat) : Int)) → (∀ s : Nat, (s : Int) < u → (zsf (zRp m q b) (zRw m) s (zRu m)).1 ≠ x.toNat) → (zSu1 m q b u i k w) →  wW (zK sc) zM247 74 [(0, .inr (.inr (.inl (some (34, 0))))), (1, .inl q), (2, .inl b), (3, .inl x), (4, .inl y), (5, .inl u), (6, .inl w), (7, .inl k), (8, .inl i)] [] n m (wr (fun vv n1 m1 => ∃ r : Int, vv = some (.inl r) ∧ n = n1 ∧ m = m1 ∧ ((0 ≤ r ∧ r ≤ 2147483647 ∧ (zsf (zRp m q b) (zRw m) r.toNat (zRu m)).1 = x.toNat) ∨ (r = -1 ∧ ¬ ∃ v, zsq (zRp m q b) (zRw m) (zRu m) (x.toNat, v)))))) := by
  intro d
  induction d using Nat.strongRecOn with
  | ind d ih =>
    refine ⟨?_, ?_⟩
    · intro y u hd hi hy hn
      have br : 0 ≤ m.1 34 0 30 ∧ m.1 34 0 30 ≤ 24 := hG.1 34 _ rfl _ _
      have hs9 := wshl_1 (k := y) (by omega)
      have hp9 : 2 ^ y.toNat ≤ 2 ^ 24 := Nat.pow_le_pow_right (by decide) (by omega)
      have t1 := wshl_rg 1 y
      have t2 : 0 ≤ y ∧ y ≤ 30 → 1 ≤ wshl 1 y := wshl1_rg
      refine ww_go 4 (pc' := 62) (L' := [(0, .inr (.inr (.inl (some (34, 0))))), (1, .inl q), (2, .inl b), (3, .inl x), (4, .inl y), (5, .inl u)]) (st' := [.inl (wshl 1 y), .inl u]) (m' := m) (o := none) rfl trivial ?_
      refine ww_ic (t := 160) rfl rfl (by omega) (fun (h3 : wshl 1 y ≤ u) => ?_) (fun (h3 : ¬ (wshl 1 y ≤ u)) => ?_)
      · show wW (zK sc) zM247 160 [(0, .inr (.inr (.inl (some (34, 0))))), (1, .inl q), (2, .inl b), (3, .inl x), (4, .inl y), (5, .inl u)] [] _ _ _
        refine ww_go 1 (pc' := 161) (L' := [(0, .inr (.inr (.inl (some (34, 0))))), (1, .inl q), (2, .inl b), (3, .inl x), (4, .inl y), (5, .inl u)]) (st' := [.inl ((-1))]) (m' := m) (o := none) rfl trivial ?_
        exact ww_rI rfl rfl ⟨_, rfl, rfl, rfl, by (exact Or.inr ⟨rfl, zSu_no hy (by omega) (by omega) hn⟩)⟩
      · show wW (zK sc) zM247 65 [(0, .inr (.inr (.inl (some (34, 0))))), (1, .inl q), (2, .inl b), (3, .inl x), (4, .inl y), (5, .inl u)] [] _ _ _
        refine ww_go 6 (pc' := 74) (L' := [(8, .inl 0), (7, .inl 0), (6, .inl 0), (0, .inr (.inr (.inl (some (34, 0))))), (1, .inl q), (2, .inl b), (3, .inl x), (4, .inl y), (5, .inl u)]) (st' := []) (m' := m) (o := none) rfl trivial ?_
        refine ww_sub (L := [(0, .inr (.inr (.inl (some (34, 0))))), (1, .inl q), (2, .inl b), (3, .inl x), (4, .inl y), (5, .inl u), (6, .inl 0), (7, .inl 0), (8, .inl 0)]) ⟨rfl, rfl, rfl, rfl, rfl, rfl, rfl, rfl, rfl, trivial⟩ rfl rfl ?_
        exact (ih _ (by omega)).2 y u 0 0 0 rfl (by omega) (by exact hy) (by exact hn) (by exact zSu1_0)
    · intro y u w k i hd hi hy hn hS
      have br : 0 ≤ m.1 34 0 30 ∧ m.1 34 0 30 ≤ 24 := hG.1 34 _ rfl _ _
      have hM9 : i < m.1 34 0 30 → 0 ≤ m.1 60 0 i.toNat ∧ m.1 60 0 i.toNat ≤ 255 := fun z => hb i.toNat (by unfold zRu; omega)
      have b1 : 0 ≤ m.1 34 0 30 ∧ m.1 34 0 30 ≤ 24 := hG.1 34 _ rfl _ _
      refine ww_go 3 (pc' := 80) (L' := [(0, .inr (.inr (.inl (some (34, 0))))), (1, .inl q), (2, .inl b), (3, .inl x), (4, .inl y), (5, .inl u), (6, .inl w), (7, .inl k), (8, .inl i)]) (st' := [.inl (m.1 34 0 30), .inl i]) (m' := m) (o := some ((0 < 1))) rfl (show (0 < 1) from by omega) ?_
      refine ww_ic (t := 145) rfl rfl (by omega) (fun (h2 : m.1 34 0 30 ≤ i) => ?_) (fun (h2 : ¬ (m.1 34 0 30 ≤ i)) => ?_)
      · show wW (zK sc) zM247 145 [(0, .inr (.inr (.inl (some (34, 0))))), (1, .inl q), (2, .inl b), (3, .inl x), (4, .inl y), (5, .inl u), (6, .inl w), (7, .inl k), (8, .inl i)] [] _ _ _
        refine ww_go 2 (pc' := 148) (L' := [(0, .inr (.inr (.inl (some (34, 0))))), (1, .inl q), (2, .inl b), (3, .inl x), (4, .inl y), (5, .inl u), (6, .inl w), (7, .inl k), (8, .inl i)]) (st' := [.inl x, .inl w]) (m' := m) (o := none) rfl trivial ?_
        refine ww_ic (t := 154) rfl rfl (by omega) (fun (h3 : w ≠ x) => ?_) (fun (h3 : ¬ (w ≠ x)) => ?_)
        · show wW (zK sc) zM247 154 [(0, .inr (.inr (.inl (some (34, 0))))), (1, .inl q), (2, .inl b), (3, .inl x), (4, .inl y), (5, .inl u), (6, .inl w), (7, .inl k), (8, .inl i)] [] _ _ _
          refine ww_go 2 (pc' := 56) (L' := [(5, .inl (u + 1)), (0, .inr (.inr (.inl (some (34, 0))))), (1, .inl q), (2, .inl b), (3, .inl x), (4, .inl y), (6, .inl w), (7, .inl k), (8, .inl i)]) (st' := []) (m' := m) (o := none) rfl trivial ?_
          refine ww_sub (L := [(0, .inr (.inr (.inl (some (34, 0))))), (1, .inl q), (2, .inl b), (3, .inl x), (4, .inl y), (5, .inl (u + 1))]) ⟨rfl, rfl, rfl, rfl, rfl, rfl, trivial⟩ rfl rfl ?_
          exact (ih _ (by omega)).1 y (u + 1) rfl (by omega) (by exact hy) (by exact fun s hs => (Decidable.em ((s : Int) < u)).elim (fun z => hn s z) (fun z => (by rw [show s = u.toNat from by omega]; have z9 := hS.2.2.2; rw [show i.toNat = zRu m from by unfold zRu; omega] at z9; rw [← z9]; omega)))
        · show wW (zK sc) zM247 151 [(0, .inr (.inr (.inl (some (34, 0))))), (1, .inl q), (2, .inl b), (3, .inl x), (4, .inl y), (5, .inl u), (6, .inl w), (7, .inl k), (8, .inl i)] [] _ _ _
          refine ww_go 1 (pc' := 153) (L' := [(0, .inr (.inr (.inl (some (34, 0))))), (1, .inl q), (2, .inl b), (3, .inl x), (4, .inl y), (5, .inl u), (6, .inl w), (7, .inl k), (8, .inl i)]) (st' := [.inl u]) (m' := m) (o := none) rfl trivial ?_
          exact ww_rI rfl rfl ⟨_, rfl, rfl, rfl, by (exact Or.inl ⟨by omega, by omega, (by have z9 := hS.2.2.2; rw [show i.toNat = zRu m from by unfold zRu; omega] at z9; rw [← z9]; omega)⟩)⟩
      · show wW (zK sc) zM247 83 [(0, .inr (.inr (.inl (some (34, 0))))), (1, .inl q), (2, .inl b), (3, .inl x), (4, .inl y), (5, .inl u), (6, .inl w), (7, .inl k), (8, .inl i)] [] _ _ _
        have b4 : 0 ≤ m.1 58 0 i.toNat ∧ m.1 58 0 i.toNat ≤ 55 := hG.1 58 _ rfl _ _
        refine ww_go 5 (pc' := 91) (L' := [(0, .inr (.inr (.inl (some (34, 0))))), (1, .inl q), (2, .inl b), (3, .inl x), (4, .inl y), (5, .inl u), (6, .inl w), (7, .inl k), (8, .inl i)]) (st' := [.inl q, .inl (m.1 58 0 i.toNat)]) (m' := m) (o := some ((0 < 1) ∧ (0 < 1 ∧ 0 ≤ i ∧ i < ((24 : Nat) : Int)))) rfl (show (0 < 1) ∧ (0 < 1 ∧ 0 ≤ i ∧ i < ((24 : Nat) : Int)) from by omega) ?_
        refine ww_ic (t := 139) rfl rfl (by omega) (fun (h5 : m.1 58 0 i.toNat ≠ q) => ?_) (fun (h5 : ¬ (m.1 58 0 i.toNat ≠ q)) => ?_)
        · show wW (zK sc) zM247 139 [(0, .inr (.inr (.inl (some (34, 0))))), (1, .inl q), (2, .inl b), (3, .inl x), (4, .inl y), (5, .inl u), (6, .inl w), (7, .inl k), (8, .inl i)] [] _ _ _
          refine ww_go 2 (pc' := 74) (L' := [(8, .inl (i + 1)), (0, .inr (.inr (.inl (some (34, 0))))), (1, .inl q), (2, .inl b), (3, .inl x), (4, .inl y), (5, .inl u), (6, .inl w), (7, .inl k)]) (st' := []) (m' := m) (o := none) rfl trivial ?_
          refine ww_sub (L := [(0, .inr (.inr (.inl (some (34, 0))))), (1, .inl q), (2, .inl b), (3, .inl x), (4, .inl y), (5, .inl u), (6, .inl w), (7, .inl k), (8, .inl (i + 1))]) ⟨rfl, rfl, rfl, rfl, rfl, rfl, rfl, rfl, rfl, trivial⟩ rfl rfl ?_
          exact (ih _ (by omega)).2 y u w k (i + 1) rfl (by omega) (by exact hy) (by exact hn) (by exact zSu1_n hS (by omega) (by omega))
        · show wW (zK sc) zM247 94 [(0, .inr (.inr (.inl (some (34, 0))))), (1, .inl q), (2, .inl b), (3, .inl x), (4, .inl y), (5, .inl u), (6, .inl w), (7, .inl k), (8, .inl i)] [] _ _ _
          have b6 : 0 ≤ m.1 59 0 i.toNat ∧ m.1 59 0 i.toNat ≤ 1 := hG.1 59 _ rfl _ _
          refine ww_go 5 (pc' := 102) (L' := [(0, .inr (.inr (.inl (some (34, 0))))), (1, .inl q), (2, .inl b), (3, .inl x), (4, .inl y), (5, .inl u), (6, .inl w), (7, .inl k), (8, .inl i)]) (st' := [.inl b, .inl (m.1 59 0 i.toNat)]) (m' := m) (o := some ((0 < 1) ∧ (0 < 1 ∧ 0 ≤ i ∧ i < ((24 : Nat) : Int)))) rfl (show (0 < 1) ∧ (0 < 1 ∧ 0 ≤ i ∧ i < ((24 : Nat) : Int)) from by omega) ?_
          refine ww_ic (t := 108) rfl rfl (by omega) (fun (h7 : m.1 59 0 i.toNat = b) => ?_) (fun (h7 : ¬ (m.1 59 0 i.toNat = b)) => ?_)
          · show wW (zK sc) zM247 108 [(0, .inr (.inr (.inl (some (34, 0))))), (1, .inl q), (2, .inl b), (3, .inl x), (4, .inl y), (5, .inl u), (6, .inl w), (7, .inl k), (8, .inl i)] [] _ _ _
            have t8 := wshr_rg u k
            have t9 := wand_rg (wshr u k) 1
            have t10 := wand_m1 (wshr u k)
            refine ww_go 6 (pc' := 116) (L' := [(0, .inr (.inr (.inl (some (34, 0))))), (1, .inl q), (2, .inl b), (3, .inl x), (4, .inl y), (5, .inl u), (6, .inl w), (7, .inl k), (8, .inl i)]) (st' := [.inl 1, .inl (wand (wshr u k) 1)]) (m' := m) (o := none) rfl trivial ?_
            refine ww_ic (t := 132) rfl rfl (by omega) (fun (h11 : wand (wshr u k) 1 ≠ 1) => ?_) (fun (h11 : ¬ (wand (wshr u k) 1 ≠ 1)) => ?_)
            · show wW (zK sc) zM247 132 [(0, .inr (.inr (.inl (some (34, 0))))), (1, .inl q), (2, .inl b), (3, .inl x), (4, .inl y), (5, .inl u), (6, .inl w), (7, .inl k), (8, .inl i)] [] _ _ _
              refine ww_go 5 (pc' := 74) (L' := [(8, .inl (i + 1)), (7, .inl (k + 1)), (6, .inl w), (0, .inr (.inr (.inl (some (34, 0))))), (1, .inl q), (2, .inl b), (3, .inl x), (4, .inl y), (5, .inl u)]) (st' := []) (m' := m) (o := none) rfl trivial ?_
              refine ww_sub (L := [(0, .inr (.inr (.inl (some (34, 0))))), (1, .inl q), (2, .inl b), (3, .inl x), (4, .inl y), (5, .inl u), (6, .inl w), (7, .inl (k + 1)), (8, .inl (i + 1))]) ⟨rfl, rfl, rfl, rfl, rfl, rfl, rfl, rfl, rfl, trivial⟩ rfl rfl ?_
              exact (ih _ (by omega)).2 y u w (k + 1) (i + 1) rfl (by omega) (by exact hy) (by exact hn) (by exact zSu1_z hS (by omega) (by omega) (by omega) (by omega) (by omega))
            · show wW (zK sc) zM247 119 [(0, .inr (.inr (.inl (some (34, 0))))), (1, .inl q), (2, .inl b), (3, .inl x), (4, .inl y), (5, .inl u), (6, .inl w), (7, .inl k), (8, .inl i)] [] _ _ _
              have b12 : (-2147483648) ≤ m.1 60 0 i.toNat ∧ m.1 60 0 i.toNat ≤ 2147483647 := hG.1 60 _ rfl _ _
              have t13 := wxor_rg w (m.1 60 0 i.toNat)
              have t14 : (0 ≤ w ∧ w ≤ 255 ∧ 0 ≤ m.1 60 0 i.toNat ∧ m.1 60 0 i.toNat ≤ 255) → (0 ≤ wxor w (m.1 60 0 i.toNat) ∧ wxor w (m.1 60 0 i.toNat) ≤ 255) := fun z => wxor_255 ⟨z.1, z.2.1⟩ z.2.2
              have t15 : (0 ≤ w ∧ w ≤ 65535 ∧ 0 ≤ m.1 60 0 i.toNat ∧ m.1 60 0 i.toNat ≤ 65535) → (0 ≤ wxor w (m.1 60 0 i.toNat) ∧ wxor w (m.1 60 0 i.toNat) ≤ 65535) := fun z => wxor_65535 ⟨z.1, z.2.1⟩ z.2.2
              have t16 : (0 ≤ w ∧ w ≤ 2147483647 ∧ 0 ≤ m.1 60 0 i.toNat ∧ m.1 60 0 i.toNat ≤ 2147483647) → (0 ≤ wxor w (m.1 60 0 i.toNat) ∧ wxor w (m.1 60 0 i.toNat) ≤ 2147483647) := fun z => wxor_2147483647 ⟨z.1, z.2.1⟩ z.2.2
              refine ww_go 11 (pc' := 74) (L' := [(8, .inl (i + 1)), (7, .inl (k + 1)), (6, .inl (wxor w (m.1 60 0 i.toNat))), (0, .inr (.inr (.inl (some (34, 0))))), (1, .inl q), (2, .inl b), (3, .inl x), (4, .inl y), (5, .inl u)]) (st' := []) (m' := m) (o := some ((0 < 1) ∧ (0 < 1 ∧ 0 ≤ i ∧ i < ((24 : Nat) : Int)))) rfl (show (0 < 1) ∧ (0 < 1 ∧ 0 ≤ i ∧ i < ((24 : Nat) : Int)) from by omega) ?_
              refine ww_sub (L := [(0, .inr (.inr (.inl (some (34, 0))))), (1, .inl q), (2, .inl b), (3, .inl x), (4, .inl y), (5, .inl u), (6, .inl (wxor w (m.1 60 0 i.toNat))), (7, .inl (k + 1)), (8, .inl (i + 1))]) ⟨rfl, rfl, rfl, rfl, rfl, rfl, rfl, rfl, rfl, trivial⟩ rfl rfl ?_
              exact (ih _ (by omega)).2 y u (wxor w (m.1 60 0 i.toNat)) (k + 1) (i + 1) rfl (by omega) (by exact hy) (by exact hn) (by exact zSu1_s hS hb (by omega) (by omega) (by omega) (by omega) (by omega))
          · show wW (zK sc) zM247 105 [(0, .inr (.inr (.inl (some (34, 0))))), (1, .inl q), (2, .inl b), (3, .inl x), (4, .inl y), (5, .inl u), (6, .inl w), (7, .inl k), (8, .inl i)] [] _ _ _
            refine ww_go 3 (pc' := 74) (L' := [(8, .inl (i + 1)), (0, .inr (.inr (.inl (some (34, 0))))), (1, .inl q), (2, .inl b), (3, .inl x), (4, .inl y), (5, .inl u), (6, .inl w), (7, .inl k)]) (st' := []) (m' := m) (o := none) rfl trivial ?_
            refine ww_sub (L := [(0, .inr (.inr (.inl (some (34, 0))))), (1, .inl q), (2, .inl b), (3, .inl x), (4, .inl y), (5, .inl u), (6, .inl w), (7, .inl k), (8, .inl (i + 1))]) ⟨rfl, rfl, rfl, rfl, rfl, rfl, rfl, rfl, rfl, trivial⟩ rfl rfl ?_
            exact (ih _ (by omega)).2 y u w k (i + 1) rfl (by omega) (by exact hy) (by exact hn) (by exact zSu1_n hS (by omega) (by omega))
set_option maxRecDepth 8000 in
theorem yt247_l6 {sc : xSc} {n : Nat × Nat} {m : wm} {c : Int} (hc : 0 ≤ c ∧ c ≤ 1000000) (q : Int) (b : Int) (x : Int) (hG : zB c m) (h0 : -2147483648 ≤ q ∧ q ≤ 2147483647 ∧ -2147483648 ≤ b ∧ b ≤ 2147483647 ∧ 0 ≤ x ∧ x ≤ 255) (hb : zRb m) : ∀ (d : Nat), ∀ (y : Int) (u : Int), (24 - u).toNat = d → (0 ≤ y ∧ y ≤ u ∧ 0 ≤ u ∧ u ≤ m.1 34 0 30) → (y = ((zct (zRp m q b) u.toNat : Nat) : Int)) →  wW (zK sc) zM247 6 [(0, .inr (.inr (.inl (some (34, 0))))), (1, .inl q), (2, .inl b), (3, .inl x), (4, .inl y), (5, .inl u)] [] n m (wr (fun vv n1 m1 => ∃ r : Int, vv = some (.inl r) ∧ n = n1 ∧ m = m1 ∧ ((0 ≤ r ∧ r ≤ 2147483647 ∧ (zsf (zRp m q b) (zRw m) r.toNat (zRu m)).1 = x.toNat) ∨ (r = -1 ∧ ¬ ∃ v, zsq (zRp m q b) (zRw m) (zRu m) (x.toNat, v))))) := by
  intro d
  induction d using Nat.strongRecOn with
  | ind d ih =>
    intro y u hd hi hy
    have br : 0 ≤ m.1 34 0 30 ∧ m.1 34 0 30 ≤ 24 := hG.1 34 _ rfl _ _
    have b1 : 0 ≤ m.1 34 0 30 ∧ m.1 34 0 30 ≤ 24 := hG.1 34 _ rfl _ _
    refine ww_go 3 (pc' := 12) (L' := [(0, .inr (.inr (.inl (some (34, 0))))), (1, .inl q), (2, .inl b), (3, .inl x), (4, .inl y), (5, .inl u)]) (st' := [.inl (m.1 34 0 30), .inl u]) (m' := m) (o := some ((0 < 1))) rfl (show (0 < 1) from by omega) ?_
    refine ww_ic (t := 53) rfl rfl (by omega) (fun (h2 : m.1 34 0 30 ≤ u) => ?_) (fun (h2 : ¬ (m.1 34 0 30 ≤ u)) => ?_)
    · show wW (zK sc) zM247 53 [(0, .inr (.inr (.inl (some (34, 0))))), (1, .inl q), (2, .inl b), (3, .inl x), (4, .inl y), (5, .inl u)] [] _ _ _
      refine ww_go 2 (pc' := 56) (L' := [(5, .inl 0), (0, .inr (.inr (.inl (some (34, 0))))), (1, .inl q), (2, .inl b), (3, .inl x), (4, .inl y)]) (st' := []) (m' := m) (o := none) rfl trivial ?_
      refine ww_sub (L := [(0, .inr (.inr (.inl (some (34, 0))))), (1, .inl q), (2, .inl b), (3, .inl x), (4, .inl y), (5, .inl 0)]) ⟨rfl, rfl, rfl, rfl, rfl, rfl, trivial⟩ rfl rfl ?_
      exact (yt247_l56 hc q b x hG h0 hb _).1 y 0 rfl (by omega) (by rw [hy, show u = m.1 34 0 30 from by omega]; rfl) (by exact fun s hs => absurd hs (by omega))
    · show wW (zK sc) zM247 15 [(0, .inr (.inr (.inl (some (34, 0))))), (1, .inl q), (2, .inl b), (3, .inl x), (4, .inl y), (5, .inl u)] [] _ _ _
      have b3 : 0 ≤ m.1 58 0 u.toNat ∧ m.1 58 0 u.toNat ≤ 55 := hG.1 58 _ rfl _ _
      refine ww_go 6 (pc' := 25) (L' := [(0, .inr (.inr (.inl (some (34, 0))))), (1, .inl q), (2, .inl b), (3, .inl x), (4, .inl y), (5, .inl u)]) (st' := [.inl q, .inl (m.1 58 0 u.toNat), .inl y]) (m' := m) (o := some ((0 < 1) ∧ (0 < 1 ∧ 0 ≤ u ∧ u < ((24 : Nat) : Int)))) rfl (show (0 < 1) ∧ (0 < 1 ∧ 0 ≤ u ∧ u < ((24 : Nat) : Int)) from by omega) ?_
      refine ww_ic (t := 43) rfl rfl (by omega) (fun (h4 : m.1 58 0 u.toNat ≠ q) => ?_) (fun (h4 : ¬ (m.1 58 0 u.toNat ≠ q)) => ?_)
      · show wW (zK sc) zM247 43 [(0, .inr (.inr (.inl (some (34, 0))))), (1, .inl q), (2, .inl b), (3, .inl x), (4, .inl y), (5, .inl u)] [.inl y] _ _ _
        refine ww_go 5 (pc' := 6) (L' := [(5, .inl (u + 1)), (4, .inl (y + 0)), (0, .inr (.inr (.inl (some (34, 0))))), (1, .inl q), (2, .inl b), (3, .inl x)]) (st' := []) (m' := m) (o := none) rfl trivial ?_
        refine ww_sub (L := [(0, .inr (.inr (.inl (some (34, 0))))), (1, .inl q), (2, .inl b), (3, .inl x), (4, .inl (y + 0)), (5, .inl (u + 1))]) ⟨rfl, rfl, rfl, rfl, rfl, rfl, trivial⟩ rfl rfl ?_
        exact (ih _ (by omega)) (y + 0) (u + 1) rfl (by omega) (by rw [show (u + 1).toNat = u.toNat + 1 from by omega, zct_n (P := zRp m q b) (u := u.toNat) (show decide (m.1 58 0 u.toNat = q ∧ m.1 59 0 u.toNat = b) = false from decide_eq_false (by omega))]; omega)
      · show wW (zK sc) zM247 28 [(0, .inr (.inr (.inl (some (34, 0))))), (1, .inl q), (2, .inl b), (3, .inl x), (4, .inl y), (5, .inl u)] [.inl y] _ _ _
        have b5 : 0 ≤ m.1 59 0 u.toNat ∧ m.1 59 0 u.toNat ≤ 1 := hG.1 59 _ rfl _ _
        refine ww_go 5 (pc' := 36) (L' := [(0, .inr (.inr (.inl (some (34, 0))))), (1, .inl q), (2, .inl b), (3, .inl x), (4, .inl y), (5, .inl u)]) (st' := [.inl b, .inl (m.1 59 0 u.toNat), .inl y]) (m' := m) (o := some ((0 < 1) ∧ (0 < 1 ∧ 0 ≤ u ∧ u < ((24 : Nat) : Int)))) rfl (show (0 < 1) ∧ (0 < 1 ∧ 0 ≤ u ∧ u < ((24 : Nat) : Int)) from by omega) ?_
        refine ww_ic (t := 43) rfl rfl (by omega) (fun (h6 : m.1 59 0 u.toNat ≠ b) => ?_) (fun (h6 : ¬ (m.1 59 0 u.toNat ≠ b)) => ?_)
        · show wW (zK sc) zM247 43 [(0, .inr (.inr (.inl (some (34, 0))))), (1, .inl q), (2, .inl b), (3, .inl x), (4, .inl y), (5, .inl u)] [.inl y] _ _ _
          refine ww_go 5 (pc' := 6) (L' := [(5, .inl (u + 1)), (4, .inl (y + 0)), (0, .inr (.inr (.inl (some (34, 0))))), (1, .inl q), (2, .inl b), (3, .inl x)]) (st' := []) (m' := m) (o := none) rfl trivial ?_
          refine ww_sub (L := [(0, .inr (.inr (.inl (some (34, 0))))), (1, .inl q), (2, .inl b), (3, .inl x), (4, .inl (y + 0)), (5, .inl (u + 1))]) ⟨rfl, rfl, rfl, rfl, rfl, rfl, trivial⟩ rfl rfl ?_
          exact (ih _ (by omega)) (y + 0) (u + 1) rfl (by omega) (by rw [show (u + 1).toNat = u.toNat + 1 from by omega, zct_n (P := zRp m q b) (u := u.toNat) (show decide (m.1 58 0 u.toNat = q ∧ m.1 59 0 u.toNat = b) = false from decide_eq_false (by omega))]; omega)
        · show wW (zK sc) zM247 39 [(0, .inr (.inr (.inl (some (34, 0))))), (1, .inl q), (2, .inl b), (3, .inl x), (4, .inl y), (5, .inl u)] [.inl y] _ _ _
          refine ww_go 6 (pc' := 6) (L' := [(5, .inl (u + 1)), (4, .inl (y + 1)), (0, .inr (.inr (.inl (some (34, 0))))), (1, .inl q), (2, .inl b), (3, .inl x)]) (st' := []) (m' := m) (o := none) rfl trivial ?_
          refine ww_sub (L := [(0, .inr (.inr (.inl (some (34, 0))))), (1, .inl q), (2, .inl b), (3, .inl x), (4, .inl (y + 1)), (5, .inl (u + 1))]) ⟨rfl, rfl, rfl, rfl, rfl, rfl, trivial⟩ rfl rfl ?_
          exact (ih _ (by omega)) (y + 1) (u + 1) rfl (by omega) (by rw [show (u + 1).toNat = u.toNat + 1 from by omega, zct_s (P := zRp m q b) (u := u.toNat) (show decide (m.1 58 0 u.toNat = q ∧ m.1 59 0 u.toNat = b) = true from decide_eq_true (by omega))]; omega)
set_option maxRecDepth 8000 in
/-- Mo.sum -/
theorem yt247 {sc : xSc} {n : Nat × Nat} {m : wm} {c : Int} (hc : 0 ≤ c ∧ c ≤ 1000000) (q : Int) (b : Int) (x : Int) (hG : zB c m) (h0 : -2147483648 ≤ q ∧ q ≤ 2147483647 ∧ -2147483648 ≤ b ∧ b ≤ 2147483647 ∧ 0 ≤ x ∧ x ≤ 255) (hb : zRb m) : wX (zK sc) 247 [.inr (.inr (.inl (some (34, 0)))), .inl q, .inl b, .inl x] n m (wr (fun vv n1 m1 => ∃ r : Int, vv = some (.inl r) ∧ n = n1 ∧ m = m1 ∧ ((0 ≤ r ∧ r ≤ 2147483647 ∧ (zsf (zRp m q b) (zRw m) r.toNat (zRu m)).1 = x.toNat) ∨ (r = -1 ∧ ¬ ∃ v, zsq (zRp m q b) (zRw m) (zRu m) (x.toNat, v))))) := by
  refine wX_of (N := zM247) rfl (Nat.le_of_ble_eq_true rfl) ?_
  show wW (zK sc) zM247 0 [(0, .inr (.inr (.inl (some (34, 0))))), (1, .inl q), (2, .inl b), (3, .inl x)] [] n m _
  have br : 0 ≤ m.1 34 0 30 ∧ m.1 34 0 30 ≤ 24 := hG.1 34 _ rfl _ _
  refine ww_go 4 (pc' := 6) (L' := [(5, .inl 0), (4, .inl 0), (0, .inr (.inr (.inl (some (34, 0))))), (1, .inl q), (2, .inl b), (3, .inl x)]) (st' := []) (m' := m) (o := none) rfl trivial ?_
  refine ww_sub (L := [(0, .inr (.inr (.inl (some (34, 0))))), (1, .inl q), (2, .inl b), (3, .inl x), (4, .inl 0), (5, .inl 0)]) ⟨rfl, rfl, rfl, rfl, rfl, rfl, trivial⟩ rfl rfl ?_
  exact (yt247_l6 hc q b x hG h0 hb _) 0 0 rfl (by omega) (by rfl)
set_option maxRecDepth 8000 in
theorem yt251_l9 {sc : xSc} {n : Nat × Nat} {m : wm} {c : Int} (hc : 0 ≤ c ∧ c ≤ 1000000) (q : Int) (b : Int) (x : Int) (hG : zB c m) (h0 : -2147483648 ≤ q ∧ q ≤ 2147483647 ∧ -2147483648 ≤ b ∧ b ≤ 2147483647 ∧ -2147483648 ≤ x ∧ x ≤ 2147483647) : ∀ (d : Nat), ∀ (v : Int64) (k : Int) (i : Int), (24 - i).toNat = d → (0 ≤ k ∧ k ≤ i ∧ 0 ≤ i ∧ i ≤ m.1 34 0 30) → (0 ≤ x → zSu2 m q b x i k v) →  wW (zK sc) zM251 9 [(0, .inr (.inr (.inl (some (34, 0))))), (1, .inl q), (2, .inl b), (3, .inl x), (4, .inr (.inl v)), (6, .inl k), (7, .inl i)] [] n m (wr (fun vv n1 m1 => ∃ r : Int64, vv = some (.inr (.inl r)) ∧ n = n1 ∧ m = m1 ∧ (0 ≤ x → r = (zsf (zRp m q b) (zRw m) x.toNat (zRu m)).2))) := by
  intro d
  induction d using Nat.strongRecOn with
  | ind d ih =>
    intro v k i hd hi hS
    have br : 0 ≤ m.1 34 0 30 ∧ m.1 34 0 30 ≤ 24 := hG.1 34 _ rfl _ _
    have b1 : 0 ≤ m.1 34 0 30 ∧ m.1 34 0 30 ≤ 24 := hG.1 34 _ rfl _ _
    refine ww_go 3 (pc' := 15) (L' := [(0, .inr (.inr (.inl (some (34, 0))))), (1, .inl q), (2, .inl b), (3, .inl x), (4, .inr (.inl v)), (6, .inl k), (7, .inl i)]) (st' := [.inl (m.1 34 0 30), .inl i]) (m' := m) (o := some ((0 < 1))) rfl (show (0 < 1) from by omega) ?_
    refine ww_ic (t := 79) rfl rfl (by omega) (fun (h2 : m.1 34 0 30 ≤ i) => ?_) (fun (h2 : ¬ (m.1 34 0 30 ≤ i)) => ?_)
    · show wW (zK sc) zM251 79 [(0, .inr (.inr (.inl (some (34, 0))))), (1, .inl q), (2, .inl b), (3, .inl x), (4, .inr (.inl v)), (6, .inl k), (7, .inl i)] [] _ _ _
      refine ww_go 1 (pc' := 81) (L' := [(0, .inr (.inr (.inl (some (34, 0))))), (1, .inl q), (2, .inl b), (3, .inl x), (4, .inr (.inl v)), (6, .inl k), (7, .inl i)]) (st' := [.inr (.inl v)]) (m' := m) (o := none) rfl trivial ?_
      exact ww_rL rfl rfl ⟨_, rfl, rfl, rfl, by exact fun z9 => (by rw [(hS z9).2, show i.toNat = zRu m from by unfold zRu; omega])⟩
    · show wW (zK sc) zM251 18 [(0, .inr (.inr (.inl (some (34, 0))))), (1, .inl q), (2, .inl b), (3, .inl x), (4, .inr (.inl v)), (6, .inl k), (7, .inl i)] [] _ _ _
      have b3 : 0 ≤ m.1 58 0 i.toNat ∧ m.1 58 0 i.toNat ≤ 55 := hG.1 58 _ rfl _ _
      refine ww_go 5 (pc' := 26) (L' := [(0, .inr (.inr (.inl (some (34, 0))))), (1, .inl q), (2, .inl b), (3, .inl x), (4, .inr (.inl v)), (6, .inl k), (7, .inl i)]) (st' := [.inl q, .inl (m.1 58 0 i.toNat)]) (m' := m) (o := some ((0 < 1) ∧ (0 < 1 ∧ 0 ≤ i ∧ i < ((24 : Nat) : Int)))) rfl (show (0 < 1) ∧ (0 < 1 ∧ 0 ≤ i ∧ i < ((24 : Nat) : Int)) from by omega) ?_
      refine ww_ic (t := 73) rfl rfl (by omega) (fun (h4 : m.1 58 0 i.toNat ≠ q) => ?_) (fun (h4 : ¬ (m.1 58 0 i.toNat ≠ q)) => ?_)
      · show wW (zK sc) zM251 73 [(0, .inr (.inr (.inl (some (34, 0))))), (1, .inl q), (2, .inl b), (3, .inl x), (4, .inr (.inl v)), (6, .inl k), (7, .inl i)] [] _ _ _
        refine ww_go 2 (pc' := 9) (L' := [(7, .inl (i + 1)), (0, .inr (.inr (.inl (some (34, 0))))), (1, .inl q), (2, .inl b), (3, .inl x), (4, .inr (.inl v)), (6, .inl k)]) (st' := []) (m' := m) (o := none) rfl trivial ?_
        refine ww_sub (L := [(0, .inr (.inr (.inl (some (34, 0))))), (1, .inl q), (2, .inl b), (3, .inl x), (4, .inr (.inl v)), (6, .inl k), (7, .inl (i + 1))]) ⟨rfl, rfl, rfl, rfl, rfl, rfl, rfl, trivial⟩ rfl rfl ?_
        exact (ih _ (by omega)) v k (i + 1) rfl (by omega) (by exact fun z9 => zSu2_n (hS z9) (by omega) (by omega))
      · show wW (zK sc) zM251 29 [(0, .inr (.inr (.inl (some (34, 0))))), (1, .inl q), (2, .inl b), (3, .inl x), (4, .inr (.inl v)), (6, .inl k), (7, .inl i)] [] _ _ _
        have b5 : 0 ≤ m.1 59 0 i.toNat ∧ m.1 59 0 i.toNat ≤ 1 := hG.1 59 _ rfl _ _
        refine ww_go 5 (pc' := 37) (L' := [(0, .inr (.inr (.inl (some (34, 0))))), (1, .inl q), (2, .inl b), (3, .inl x), (4, .inr (.inl v)), (6, .inl k), (7, .inl i)]) (st' := [.inl b, .inl (m.1 59 0 i.toNat)]) (m' := m) (o := some ((0 < 1) ∧ (0 < 1 ∧ 0 ≤ i ∧ i < ((24 : Nat) : Int)))) rfl (show (0 < 1) ∧ (0 < 1 ∧ 0 ≤ i ∧ i < ((24 : Nat) : Int)) from by omega) ?_
        refine ww_ic (t := 43) rfl rfl (by omega) (fun (h6 : m.1 59 0 i.toNat = b) => ?_) (fun (h6 : ¬ (m.1 59 0 i.toNat = b)) => ?_)
        · show wW (zK sc) zM251 43 [(0, .inr (.inr (.inl (some (34, 0))))), (1, .inl q), (2, .inl b), (3, .inl x), (4, .inr (.inl v)), (6, .inl k), (7, .inl i)] [] _ _ _
          have t7 := wshr_rg x k
          have t8 := wand_rg (wshr x k) 1
          have t9 := wand_m1 (wshr x k)
          refine ww_go 6 (pc' := 50) (L' := [(0, .inr (.inr (.inl (some (34, 0))))), (1, .inl q), (2, .inl b), (3, .inl x), (4, .inr (.inl v)), (6, .inl k), (7, .inl i)]) (st' := [.inl 1, .inl (wand (wshr x k) 1)]) (m' := m) (o := none) rfl trivial ?_
          refine ww_ic (t := 66) rfl rfl (by omega) (fun (h10 : wand (wshr x k) 1 ≠ 1) => ?_) (fun (h10 : ¬ (wand (wshr x k) 1 ≠ 1)) => ?_)
          · show wW (zK sc) zM251 66 [(0, .inr (.inr (.inl (some (34, 0))))), (1, .inl q), (2, .inl b), (3, .inl x), (4, .inr (.inl v)), (6, .inl k), (7, .inl i)] [] _ _ _
            refine ww_go 5 (pc' := 9) (L' := [(7, .inl (i + 1)), (6, .inl (k + 1)), (4, .inr (.inl v)), (0, .inr (.inr (.inl (some (34, 0))))), (1, .inl q), (2, .inl b), (3, .inl x)]) (st' := []) (m' := m) (o := none) rfl trivial ?_
            refine ww_sub (L := [(0, .inr (.inr (.inl (some (34, 0))))), (1, .inl q), (2, .inl b), (3, .inl x), (4, .inr (.inl v)), (6, .inl (k + 1)), (7, .inl (i + 1))]) ⟨rfl, rfl, rfl, rfl, rfl, rfl, rfl, trivial⟩ rfl rfl ?_
            exact (ih _ (by omega)) v (k + 1) (i + 1) rfl (by omega) (by exact fun z9 => zSu2_z (hS z9) (by omega) (by omega) (by omega) (by omega) (by omega))
          · show wW (zK sc) zM251 53 [(0, .inr (.inr (.inl (some (34, 0))))), (1, .inl q), (2, .inl b), (3, .inl x), (4, .inr (.inl v)), (6, .inl k), (7, .inl i)] [] _ _ _
            refine ww_go 11 (pc' := 9) (L' := [(7, .inl (i + 1)), (6, .inl (k + 1)), (4, .inr (.inl (v ^^^ (m.2.1 61 0 i.toNat)))), (0, .inr (.inr (.inl (some (34, 0))))), (1, .inl q), (2, .inl b), (3, .inl x)]) (st' := []) (m' := m) (o := some ((0 < 1) ∧ (0 < 1 ∧ 0 ≤ i ∧ i < ((24 : Nat) : Int)))) rfl (show (0 < 1) ∧ (0 < 1 ∧ 0 ≤ i ∧ i < ((24 : Nat) : Int)) from by omega) ?_
            refine ww_sub (L := [(0, .inr (.inr (.inl (some (34, 0))))), (1, .inl q), (2, .inl b), (3, .inl x), (4, .inr (.inl (v ^^^ (m.2.1 61 0 i.toNat)))), (6, .inl (k + 1)), (7, .inl (i + 1))]) ⟨rfl, rfl, rfl, rfl, rfl, rfl, rfl, trivial⟩ rfl rfl ?_
            exact (ih _ (by omega)) (v ^^^ (m.2.1 61 0 i.toNat)) (k + 1) (i + 1) rfl (by omega) (by exact fun z9 => zSu2_s (hS z9) (by omega) (by omega) (by omega) (by omega) (by omega))
        · show wW (zK sc) zM251 40 [(0, .inr (.inr (.inl (some (34, 0))))), (1, .inl q), (2, .inl b), (3, .inl x), (4, .inr (.inl v)), (6, .inl k), (7, .inl i)] [] _ _ _
          refine ww_go 3 (pc' := 9) (L' := [(7, .inl (i + 1)), (0, .inr (.inr (.inl (some (34, 0))))), (1, .inl q), (2, .inl b), (3, .inl x), (4, .inr (.inl v)), (6, .inl k)]) (st' := []) (m' := m) (o := none) rfl trivial ?_
          refine ww_sub (L := [(0, .inr (.inr (.inl (some (34, 0))))), (1, .inl q), (2, .inl b), (3, .inl x), (4, .inr (.inl v)), (6, .inl k), (7, .inl (i + 1))]) ⟨rfl, rfl, rfl, rfl, rfl, rfl, rfl, trivial⟩ rfl rfl ?_
          exact (ih _ (by omega)) v k (i + 1) rfl (by omega) (by exact fun z9 => zSu2_n (hS z9) (by omega) (by omega))
set_option maxRecDepth 8000 in
/-- Mo.together -/
theorem yt251 {sc : xSc} {n : Nat × Nat} {m : wm} {c : Int} (hc : 0 ≤ c ∧ c ≤ 1000000) (q : Int) (b : Int) (x : Int) (hG : zB c m) (h0 : -2147483648 ≤ q ∧ q ≤ 2147483647 ∧ -2147483648 ≤ b ∧ b ≤ 2147483647 ∧ -2147483648 ≤ x ∧ x ≤ 2147483647) : wX (zK sc) 251 [.inr (.inr (.inl (some (34, 0)))), .inl q, .inl b, .inl x] n m (wr (fun vv n1 m1 => ∃ r : Int64, vv = some (.inr (.inl r)) ∧ n = n1 ∧ m = m1 ∧ (0 ≤ x → r = (zsf (zRp m q b) (zRw m) x.toNat (zRu m)).2))) := by
  refine wX_of (N := zM251) rfl (Nat.le_of_ble_eq_true rfl) ?_
  show wW (zK sc) zM251 0 [(0, .inr (.inr (.inl (some (34, 0))))), (1, .inl q), (2, .inl b), (3, .inl x)] [] n m _
  have br : 0 ≤ m.1 34 0 30 ∧ m.1 34 0 30 ≤ 24 := hG.1 34 _ rfl _ _
  refine ww_go 6 (pc' := 9) (L' := [(7, .inl 0), (6, .inl 0), (4, .inr (.inl (Int64.ofNat 0))), (0, .inr (.inr (.inl (some (34, 0))))), (1, .inl q), (2, .inl b), (3, .inl x)]) (st' := []) (m' := m) (o := none) rfl trivial ?_
  refine ww_sub (L := [(0, .inr (.inr (.inl (some (34, 0))))), (1, .inl q), (2, .inl b), (3, .inl x), (4, .inr (.inl (Int64.ofNat 0))), (6, .inl 0), (7, .inl 0)]) ⟨rfl, rfl, rfl, rfl, rfl, rfl, rfl, trivial⟩ rfl rfl ?_
  exact (yt251_l9 hc q b x hG h0 _) (Int64.ofNat 0) 0 0 rfl (by omega) (by exact fun _ => zSu2_0)
set_option maxRecDepth 8000 in
theorem yt240_l5 {sc : xSc} {n : Nat × Nat} {m : wm} {c : Int} (hc : 0 ≤ c ∧ c ≤ 1000000) (q : Int) (b : Int) (hG : zB c m) (h0 : -2147483648 ≤ q ∧ q ≤ 2147483647 ∧ -2147483648 ≤ b ∧ b ≤ 2147483647) : ∀ (d : Nat), ∀ (y : Int) (u : Int), (24 - u).toNat = d → (0 ≤ y ∧ y ≤ u ∧ u ≤ m.1 34 0 30) → (y = ((zct (zRp m q b) u.toNat : Nat) : Int)) →  wW (zK sc) zM240 5 [(0, .inr (.inr (.inl (some (34, 0))))), (1, .inl q), (2, .inl b), (3, .inl y), (4, .inl u)] [] n m (wr (fun vv n1 m1 => ∃ r : Int, vv = some (.inl r) ∧ n = n1 ∧ m = m1 ∧ ((0 ≤ r ∧ r ≤ 24) ∧ r = ((zct (zRp m q b) (zRu m) : Nat) : Int)))) := by
  intro d
  induction d using Nat.strongRecOn with
  | ind d ih =>
    intro y u hd hi hy
    have br : 0 ≤ m.1 34 0 30 ∧ m.1 34 0 30 ≤ 24 := hG.1 34 _ rfl _ _
    have b1 : 0 ≤ m.1 34 0 30 ∧ m.1 34 0 30 ≤ 24 := hG.1 34 _ rfl _ _
    refine ww_go 3 (pc' := 11) (L' := [(0, .inr (.inr (.inl (some (34, 0))))), (1, .inl q), (2, .inl b), (3, .inl y), (4, .inl u)]) (st' := [.inl (m.1 34 0 30), .inl u]) (m' := m) (o := some ((0 < 1))) rfl (show (0 < 1) from by omega) ?_
    refine ww_ic (t := 50) rfl rfl (by omega) (fun (h2 : m.1 34 0 30 ≤ u) => ?_) (fun (h2 : ¬ (m.1 34 0 30 ≤ u)) => ?_)
    · show wW (zK sc) zM240 50 [(0, .inr (.inr (.inl (some (34, 0))))), (1, .inl q), (2, .inl b), (3, .inl y), (4, .inl u)] [] _ _ _
      refine ww_go 1 (pc' := 51) (L' := [(0, .inr (.inr (.inl (some (34, 0))))), (1, .inl q), (2, .inl b), (3, .inl y), (4, .inl u)]) (st' := [.inl y]) (m' := m) (o := none) rfl trivial ?_
      exact ww_rI rfl rfl ⟨_, rfl, rfl, rfl, by exact ⟨by omega, by rw [hy, show u = m.1 34 0 30 from by omega]; rfl⟩⟩
    · show wW (zK sc) zM240 14 [(0, .inr (.inr (.inl (some (34, 0))))), (1, .inl q), (2, .inl b), (3, .inl y), (4, .inl u)] [] _ _ _
      have b3 : 0 ≤ m.1 58 0 u.toNat ∧ m.1 58 0 u.toNat ≤ 55 := hG.1 58 _ rfl _ _
      refine ww_go 6 (pc' := 23) (L' := [(0, .inr (.inr (.inl (some (34, 0))))), (1, .inl q), (2, .inl b), (3, .inl y), (4, .inl u)]) (st' := [.inl q, .inl (m.1 58 0 u.toNat), .inl y]) (m' := m) (o := some ((0 < 1) ∧ (0 < 1 ∧ 0 ≤ u ∧ u < ((24 : Nat) : Int)))) rfl (show (0 < 1) ∧ (0 < 1 ∧ 0 ≤ u ∧ u < ((24 : Nat) : Int)) from by omega) ?_
      refine ww_ic (t := 41) rfl rfl (by omega) (fun (h4 : m.1 58 0 u.toNat ≠ q) => ?_) (fun (h4 : ¬ (m.1 58 0 u.toNat ≠ q)) => ?_)
      · show wW (zK sc) zM240 41 [(0, .inr (.inr (.inl (some (34, 0))))), (1, .inl q), (2, .inl b), (3, .inl y), (4, .inl u)] [.inl y] _ _ _
        refine ww_go 5 (pc' := 5) (L' := [(4, .inl (u + 1)), (3, .inl (y + 0)), (0, .inr (.inr (.inl (some (34, 0))))), (1, .inl q), (2, .inl b)]) (st' := []) (m' := m) (o := none) rfl trivial ?_
        refine ww_sub (L := [(0, .inr (.inr (.inl (some (34, 0))))), (1, .inl q), (2, .inl b), (3, .inl (y + 0)), (4, .inl (u + 1))]) ⟨rfl, rfl, rfl, rfl, rfl, trivial⟩ rfl rfl ?_
        exact (ih _ (by omega)) (y + 0) (u + 1) rfl (by omega) (by rw [show (u + 1).toNat = u.toNat + 1 from by omega, zct_n (P := zRp m q b) (u := u.toNat) (show decide (m.1 58 0 u.toNat = q ∧ m.1 59 0 u.toNat = b) = false from decide_eq_false (by omega))]; omega)
      · show wW (zK sc) zM240 26 [(0, .inr (.inr (.inl (some (34, 0))))), (1, .inl q), (2, .inl b), (3, .inl y), (4, .inl u)] [.inl y] _ _ _
        have b5 : 0 ≤ m.1 59 0 u.toNat ∧ m.1 59 0 u.toNat ≤ 1 := hG.1 59 _ rfl _ _
        refine ww_go 5 (pc' := 34) (L' := [(0, .inr (.inr (.inl (some (34, 0))))), (1, .inl q), (2, .inl b), (3, .inl y), (4, .inl u)]) (st' := [.inl b, .inl (m.1 59 0 u.toNat), .inl y]) (m' := m) (o := some ((0 < 1) ∧ (0 < 1 ∧ 0 ≤ u ∧ u < ((24 : Nat) : Int)))) rfl (show (0 < 1) ∧ (0 < 1 ∧ 0 ≤ u ∧ u < ((24 : Nat) : Int)) from by omega) ?_
        refine ww_ic (t := 41) rfl rfl (by omega) (fun (h6 : m.1 59 0 u.toNat ≠ b) => ?_) (fun (h6 : ¬ (m.1 59 0 u.toNat ≠ b)) => ?_)
        · show wW (zK sc) zM240 41 [(0, .inr (.inr (.inl (some (34, 0))))), (1, .inl q), (2, .inl b), (3, .inl y), (4, .inl u)] [.inl y] _ _ _
          refine ww_go 5 (pc' := 5) (L' := [(4, .inl (u + 1)), (3, .inl (y + 0)), (0, .inr (.inr (.inl (some (34, 0))))), (1, .inl q), (2, .inl b)]) (st' := []) (m' := m) (o := none) rfl trivial ?_
          refine ww_sub (L := [(0, .inr (.inr (.inl (some (34, 0))))), (1, .inl q), (2, .inl b), (3, .inl (y + 0)), (4, .inl (u + 1))]) ⟨rfl, rfl, rfl, rfl, rfl, trivial⟩ rfl rfl ?_
          exact (ih _ (by omega)) (y + 0) (u + 1) rfl (by omega) (by rw [show (u + 1).toNat = u.toNat + 1 from by omega, zct_n (P := zRp m q b) (u := u.toNat) (show decide (m.1 58 0 u.toNat = q ∧ m.1 59 0 u.toNat = b) = false from decide_eq_false (by omega))]; omega)
        · show wW (zK sc) zM240 37 [(0, .inr (.inr (.inl (some (34, 0))))), (1, .inl q), (2, .inl b), (3, .inl y), (4, .inl u)] [.inl y] _ _ _
          refine ww_go 6 (pc' := 5) (L' := [(4, .inl (u + 1)), (3, .inl (y + 1)), (0, .inr (.inr (.inl (some (34, 0))))), (1, .inl q), (2, .inl b)]) (st' := []) (m' := m) (o := none) rfl trivial ?_
          refine ww_sub (L := [(0, .inr (.inr (.inl (some (34, 0))))), (1, .inl q), (2, .inl b), (3, .inl (y + 1)), (4, .inl (u + 1))]) ⟨rfl, rfl, rfl, rfl, rfl, trivial⟩ rfl rfl ?_
          exact (ih _ (by omega)) (y + 1) (u + 1) rfl (by omega) (by rw [show (u + 1).toNat = u.toNat + 1 from by omega, zct_s (P := zRp m q b) (u := u.toNat) (show decide (m.1 58 0 u.toNat = q ∧ m.1 59 0 u.toNat = b) = true from decide_eq_true (by omega))]; omega)
set_option maxRecDepth 8000 in
/-- Mo.rowsOf -/
theorem yt240 {sc : xSc} {n : Nat × Nat} {m : wm} {c : Int} (hc : 0 ≤ c ∧ c ≤ 1000000) (q : Int) (b : Int) (hG : zB c m) (h0 : -2147483648 ≤ q ∧ q ≤ 2147483647 ∧ -2147483648 ≤ b ∧ b ≤ 2147483647) : wX (zK sc) 240 [.inr (.inr (.inl (some (34, 0)))), .inl q, .inl b] n m (wr (fun vv n1 m1 => ∃ r : Int, vv = some (.inl r) ∧ n = n1 ∧ m = m1 ∧ ((0 ≤ r ∧ r ≤ 24) ∧ r = ((zct (zRp m q b) (zRu m) : Nat) : Int)))) := by
  refine wX_of (N := zM240) rfl (Nat.le_of_ble_eq_true rfl) ?_
  show wW (zK sc) zM240 0 [(0, .inr (.inr (.inl (some (34, 0))))), (1, .inl q), (2, .inl b)] [] n m _
  have br : 0 ≤ m.1 34 0 30 ∧ m.1 34 0 30 ≤ 24 := hG.1 34 _ rfl _ _
  refine ww_go 4 (pc' := 5) (L' := [(4, .inl 0), (3, .inl 0), (0, .inr (.inr (.inl (some (34, 0))))), (1, .inl q), (2, .inl b)]) (st' := []) (m' := m) (o := none) rfl trivial ?_
  refine ww_sub (L := [(0, .inr (.inr (.inl (some (34, 0))))), (1, .inl q), (2, .inl b), (3, .inl 0), (4, .inl 0)]) ⟨rfl, rfl, rfl, rfl, rfl, trivial⟩ rfl rfl ?_
  exact (yt240_l5 hc q b hG h0 _) 0 0 rfl (by omega) (by rfl)
set_option maxRecDepth 8000 in
theorem yt192_l6 {sc : xSc} {n : Nat × Nat} {m0 : wm} {c : Int} (hc : 0 ≤ c ∧ c ≤ 1000000) (x : Int) (y : Int) (b : Int) (hG : zB c m0) (h0 : -2147483648 ≤ x ∧ x ≤ 2147483647 ∧ -2147483648 ≤ y ∧ y ≤ 2147483647 ∧ -2147483648 ≤ b ∧ b ≤ 2147483647) : ∀ (d : Nat), ∀ (u : Int) (i : Int) (m : wm), (24 - i).toNat = d → zB c m → zfr (fun k i j => (k = 58) ∨ (k = 59) ∨ (k = 60) ∨ (k = 61) ∨ (k = 34 ∧ j = 30)) m0 m → (0 ≤ u ∧ u ≤ i ∧ i ≤ m0.1 34 0 30 ∧ m.1 34 0 30 = m0.1 34 0 30) → (∀ q : Int, i ≤ q → m.1 58 0 q.toNat = m0.1 58 0 q.toNat) → (b < 0 → zHit m0 i x y → u < i) → (u = ((zct (zRk m0 x y b) i.toNat : Nat) : Int)) → (zRdu m0 m x y b i) →  wW (zK sc) zM192 6 [(0, .inr (.inr (.inl (some (34, 0))))), (1, .inl x), (2, .inl y), (3, .inl b), (4, .inl u), (5, .inl i)] [] n m (wr (fun vv n1 m1 => vv = none ∧ n = n1 ∧ zB c m1 ∧ zfr (fun k i j => (k = 58) ∨ (k = 59) ∨ (k = 60) ∨ (k = 61) ∨ (k = 34 ∧ j = 30)) m0 m1 ∧ (m1.1 34 0 30 ≤ m0.1 34 0 30 ∧ (b < 0 → zHit m0 (m0.1 34 0 30) x y → m1.1 34 0 30 < m0.1 34 0 30) ∧ zRdr m0 m1 x y b))) := by
  intro d
  induction d using Nat.strongRecOn with
  | ind d ih =>
    intro u i m hd hGm hFm hi hq hh hz hD
    have q0 : 0 ≤ m0.1 34 0 30 ∧ m0.1 34 0 30 ≤ 24 := hG.1 34 _ rfl _ _
    obtain ⟨hk58, hk59, -, -⟩ := hD.2 i.toNat (by omega)
    have b1 : 0 ≤ m.1 34 0 30 ∧ m.1 34 0 30 ≤ 24 := hGm.1 34 _ rfl _ _
    refine ww_go 3 (pc' := 12) (L' := [(0, .inr (.inr (.inl (some (34, 0))))), (1, .inl x), (2, .inl y), (3, .inl b), (4, .inl u), (5, .inl i)]) (st' := [.inl (m.1 34 0 30), .inl i]) (m' := m) (o := some ((0 < 1))) rfl (show (0 < 1) from by omega) ?_
    refine ww_ic (t := 113) rfl rfl (by omega) (fun (h2 : m.1 34 0 30 ≤ i) => ?_) (fun (h2 : ¬ (m.1 34 0 30 ≤ i)) => ?_)
    · show wW (zK sc) zM192 113 [(0, .inr (.inr (.inl (some (34, 0))))), (1, .inl x), (2, .inl y), (3, .inl b), (4, .inl u), (5, .inl i)] [] _ _ _
      refine ww_go 3 (pc' := 119) (L' := [(0, .inr (.inr (.inl (some (34, 0))))), (1, .inl x), (2, .inl y), (3, .inl b), (4, .inl u), (5, .inl i)]) (st' := []) (m' := wuI m 34 0 30 u) (o := some ((0 < 1))) rfl (show (0 < 1) from by omega) ?_
      obtain ⟨m3, hm3⟩ : ∃ zq9 : wm, zq9 = wuI m 34 0 30 u := ⟨_, rfl⟩
      rw [← hm3]
      have hGm3 : zB c m3 := by rw [hm3]; exact zB_wI rfl (show 0 ≤ u ∧ u ≤ 24 from by omega) hGm
      have hFm3 : zfr (fun k i j => (k = 58) ∨ (k = 59) ∨ (k = 60) ∨ (k = 61) ∨ (k = 34 ∧ j = 30)) m0 m3 := by rw [hm3]; exact zfr_wI hFm (show (34 = 58) ∨ (34 = 59) ∨ (34 = 60) ∨ (34 = 61) ∨ (34 = 34 ∧ 30 = 30) from Or.inr (Or.inr (Or.inr (Or.inr (⟨rfl, rfl⟩)))))
      have s4 : m3.1 34 0 30 = u := by rw [hm3]; exact wuI_self
      exact ww_rV rfl rfl ⟨rfl, rfl, zB_mono hGm3 (by omega), hFm3, ⟨by omega, fun hb hz => (by obtain ⟨q, z1, z2, z3, z4⟩ := hz; have := hh hb ⟨q, z1, by omega, z3, z4⟩; omega), ⟨(by rw [show m3.1 34 0 30 = u from by omega, hz, show i = m0.1 34 0 30 from by omega]; rfl), fun j hj hZ => (by rw [hm3]; exact hD.1 j (by unfold zRu at hj; omega) hZ)⟩⟩⟩
    · show wW (zK sc) zM192 15 [(0, .inr (.inr (.inl (some (34, 0))))), (1, .inl x), (2, .inl y), (3, .inl b), (4, .inl u), (5, .inl i)] [] _ _ _
      have b5 : 0 ≤ m.1 58 0 i.toNat ∧ m.1 58 0 i.toNat ≤ 55 := hGm.1 58 _ rfl _ _
      refine ww_go 6 (pc' := 24) (L' := [(0, .inr (.inr (.inl (some (34, 0))))), (1, .inl x), (2, .inl y), (3, .inl b), (4, .inl u), (5, .inl i)]) (st' := [.inl y, .inl x, .inl (m.1 58 0 i.toNat)]) (m' := m) (o := some ((0 < 1) ∧ (0 < 1 ∧ 0 ≤ i ∧ i < ((24 : Nat) : Int)))) rfl (show (0 < 1) ∧ (0 < 1 ∧ 0 ≤ i ∧ i < ((24 : Nat) : Int)) from by omega) ?_
      refine ww_call (vs := [.inl (m.1 58 0 i.toNat), .inl x, .inl y]) (r := []) (p := True) rfl rfl rfl rfl trivial (zs207 (m.1 58 0 i.toNat) x y (by omega)) ?_
      rintro _ _ _ ⟨r6, rfl, rfl, rfl, hr7⟩
      show wW (zK sc) zM192 27 [(0, .inr (.inr (.inl (some (34, 0))))), (1, .inl x), (2, .inl y), (3, .inl b), (4, .inl u), (5, .inl i)] [.inl r6] _ _ _
      refine ww_if (t := 48) rfl rfl (by omega) (fun (h8 : r6 = 0) => ?_) (fun (h8 : ¬ (r6 = 0)) => ?_)
      · show wW (zK sc) zM192 48 [(0, .inr (.inr (.inl (some (34, 0))))), (1, .inl x), (2, .inl y), (3, .inl b), (4, .inl u), (5, .inl i)] [] _ _ _
        have b9 : 0 ≤ m.1 58 0 i.toNat ∧ m.1 58 0 i.toNat ≤ 55 := hGm.1 58 _ rfl _ _
        refine ww_go 8 (pc' := 62) (L' := [(0, .inr (.inr (.inl (some (34, 0))))), (1, .inl x), (2, .inl y), (3, .inl b), (4, .inl u), (5, .inl i)]) (st' := []) (m' := wuI m 58 0 u.toNat (m.1 58 0 i.toNat)) (o := some ((0 < 1) ∧ (0 < 1) ∧ (0 < 1 ∧ 0 ≤ i ∧ i < ((24 : Nat) : Int)) ∧ (0 < 1 ∧ 0 ≤ u ∧ u < ((24 : Nat) : Int)))) rfl (show (0 < 1) ∧ (0 < 1) ∧ (0 < 1 ∧ 0 ≤ i ∧ i < ((24 : Nat) : Int)) ∧ (0 < 1 ∧ 0 ≤ u ∧ u < ((24 : Nat) : Int)) from by omega) ?_
        obtain ⟨m10, hm10⟩ : ∃ zq9 : wm, zq9 = wuI m 58 0 u.toNat (m.1 58 0 i.toNat) := ⟨_, rfl⟩
        rw [← hm10]
        have hGm10 : zB c m10 := by rw [hm10]; exact zB_wI rfl (show 0 ≤ m.1 58 0 i.toNat ∧ m.1 58 0 i.toNat ≤ 55 from by omega) hGm
        have hFm10 : zfr (fun k i j => (k = 58) ∨ (k = 59) ∨ (k = 60) ∨ (k = 61) ∨ (k = 34 ∧ j = 30)) m0 m10 := by rw [hm10]; exact zfr_wI hFm (show (58 = 58) ∨ (58 = 59) ∨ (58 = 60) ∨ (58 = 61) ∨ (58 = 34 ∧ u.toNat = 30) from Or.inl rfl)
        have s11 : m10.1 58 0 u.toNat = m.1 58 0 i.toNat := by rw [hm10]; exact wuI_self
        have w12 : m10.1 34 0 30 = m.1 34 0 30 := by rw [hm10]; rfl
        have b13 : 0 ≤ m10.1 59 0 i.toNat ∧ m10.1 59 0 i.toNat ≤ 1 := hGm10.1 59 _ rfl _ _
        refine ww_go 8 (pc' := 76) (L' := [(0, .inr (.inr (.inl (some (34, 0))))), (1, .inl x), (2, .inl y), (3, .inl b), (4, .inl u), (5, .inl i)]) (st' := []) (m' := wuI m10 59 0 u.toNat (m10.1 59 0 i.toNat)) (o := some ((0 < 1) ∧ (0 < 1) ∧ (0 < 1 ∧ 0 ≤ i ∧ i < ((24 : Nat) : Int)) ∧ (0 < 1 ∧ 0 ≤ u ∧ u < ((24 : Nat) : Int)))) rfl (show (0 < 1) ∧ (0 < 1) ∧ (0 < 1 ∧ 0 ≤ i ∧ i < ((24 : Nat) : Int)) ∧ (0 < 1 ∧ 0 ≤ u ∧ u < ((24 : Nat) : Int)) from by omega) ?_
        obtain ⟨m14, hm14⟩ : ∃ zq9 : wm, zq9 = wuI m10 59 0 u.toNat (m10.1 59 0 i.toNat) := ⟨_, rfl⟩
        rw [← hm14]
        have hGm14 : zB c m14 := by rw [hm14]; exact zB_wI rfl (show 0 ≤ m10.1 59 0 i.toNat ∧ m10.1 59 0 i.toNat ≤ 1 from by omega) hGm10
        have hFm14 : zfr (fun k i j => (k = 58) ∨ (k = 59) ∨ (k = 60) ∨ (k = 61) ∨ (k = 34 ∧ j = 30)) m0 m14 := by rw [hm14]; exact zfr_wI hFm10 (show (59 = 58) ∨ (59 = 59) ∨ (59 = 60) ∨ (59 = 61) ∨ (59 = 34 ∧ u.toNat = 30) from Or.inr (Or.inl rfl))
        have s15 : m14.1 59 0 u.toNat = m10.1 59 0 i.toNat := by rw [hm14]; exact wuI_self
        have w16 : m14.1 34 0 30 = m10.1 34 0 30 := by rw [hm14]; rfl
        have b17 : (-2147483648) ≤ m14.1 60 0 i.toNat ∧ m14.1 60 0 i.toNat ≤ 2147483647 := hGm14.1 60 _ rfl _ _
        refine ww_go 8 (pc' := 90) (L' := [(0, .inr (.inr (.inl (some (34, 0))))), (1, .inl x), (2, .inl y), (3, .inl b), (4, .inl u), (5, .inl i)]) (st' := []) (m' := wuI m14 60 0 u.toNat (m14.1 60 0 i.toNat)) (o := some ((0 < 1) ∧ (0 < 1) ∧ (0 < 1 ∧ 0 ≤ i ∧ i < ((24 : Nat) : Int)) ∧ (0 < 1 ∧ 0 ≤ u ∧ u < ((24 : Nat) : Int)))) rfl (show (0 < 1) ∧ (0 < 1) ∧ (0 < 1 ∧ 0 ≤ i ∧ i < ((24 : Nat) : Int)) ∧ (0 < 1 ∧ 0 ≤ u ∧ u < ((24 : Nat) : Int)) from by omega) ?_
        obtain ⟨m18, hm18⟩ : ∃ zq9 : wm, zq9 = wuI m14 60 0 u.toNat (m14.1 60 0 i.toNat) := ⟨_, rfl⟩
        rw [← hm18]
        have hGm18 : zB c m18 := by rw [hm18]; exact zB_wI rfl (show (-2147483648) ≤ m14.1 60 0 i.toNat ∧ m14.1 60 0 i.toNat ≤ 2147483647 from by omega) hGm14
        have hFm18 : zfr (fun k i j => (k = 58) ∨ (k = 59) ∨ (k = 60) ∨ (k = 61) ∨ (k = 34 ∧ j = 30)) m0 m18 := by rw [hm18]; exact zfr_wI hFm14 (show (60 = 58) ∨ (60 = 59) ∨ (60 = 60) ∨ (60 = 61) ∨ (60 = 34 ∧ u.toNat = 30) from Or.inr (Or.inr (Or.inl rfl)))
        have s19 : m18.1 60 0 u.toNat = m14.1 60 0 i.toNat := by rw [hm18]; exact wuI_self
        have w20 : m18.1 34 0 30 = m14.1 34 0 30 := by rw [hm18]; rfl
        refine ww_go 8 (pc' := 104) (L' := [(0, .inr (.inr (.inl (some (34, 0))))), (1, .inl x), (2, .inl y), (3, .inl b), (4, .inl u), (5, .inl i)]) (st' := []) (m' := wuL m18 61 0 u.toNat (m18.2.1 61 0 i.toNat)) (o := some ((0 < 1) ∧ (0 < 1) ∧ (0 < 1 ∧ 0 ≤ i ∧ i < ((24 : Nat) : Int)) ∧ (0 < 1 ∧ 0 ≤ u ∧ u < ((24 : Nat) : Int)))) rfl (show (0 < 1) ∧ (0 < 1) ∧ (0 < 1 ∧ 0 ≤ i ∧ i < ((24 : Nat) : Int)) ∧ (0 < 1 ∧ 0 ≤ u ∧ u < ((24 : Nat) : Int)) from by omega) ?_
        obtain ⟨m21, hm21⟩ : ∃ zq9 : wm, zq9 = wuL m18 61 0 u.toNat (m18.2.1 61 0 i.toNat) := ⟨_, rfl⟩
        rw [← hm21]
        have hGm21 : zB c m21 := by rw [hm21]; exact zB_wL hGm18
        have hFm21 : zfr (fun k i j => (k = 58) ∨ (k = 59) ∨ (k = 60) ∨ (k = 61) ∨ (k = 34 ∧ j = 30)) m0 m21 := by rw [hm21]; exact zfr_wL hFm18 (show (61 = 58) ∨ (61 = 59) ∨ (61 = 60) ∨ (61 = 61) ∨ (61 = 34 ∧ u.toNat = 30) from Or.inr (Or.inr (Or.inr (Or.inl rfl))))
        have w22 : m21.1 34 0 30 = m18.1 34 0 30 := by rw [hm21]; rfl
        refine ww_go 3 (pc' := 6) (L' := [(5, .inl (i + 1)), (4, .inl (u + 1)), (0, .inr (.inr (.inl (some (34, 0))))), (1, .inl x), (2, .inl y), (3, .inl b)]) (st' := []) (m' := m21) (o := none) rfl trivial ?_
        refine ww_sub (L := [(0, .inr (.inr (.inl (some (34, 0))))), (1, .inl x), (2, .inl y), (3, .inl b), (4, .inl (u + 1)), (5, .inl (i + 1))]) ⟨rfl, rfl, rfl, rfl, rfl, rfl, trivial⟩ rfl rfl ?_
        exact (ih _ (by omega)) (u + 1) (i + 1) m21 rfl (zB_mono hGm21 (by omega)) hFm21 (by omega) (by exact fun q h9 => by rw [hm21]; show m18.1 58 0 q.toNat = _; rw [hm18]; show m14.1 58 0 q.toNat = _; rw [hm14]; show m10.1 58 0 q.toNat = _; rw [hm10]; rw [wuI_nj (by omega)]; exact hq q (by omega)) (by first | exact fun _ hz => (by obtain ⟨q, z1, z2, _⟩ := hz; omega) | exact fun _ _ => (by omega) | exact fun hb hz => (by obtain ⟨q, z1, z2, z3, z4⟩ := hz; exact (Decidable.em (q < i)).elim (fun h9 => by have := hh hb ⟨q, z1, h9, z3, z4⟩; omega) (fun h9 => by have h8 : q = i := (by omega); rw [h8] at z3 z4; have := hq i (by omega); omega))) (by rw [show (i + 1).toNat = i.toNat + 1 from by omega, zct_s (P := zRk m0 x y b) (u := i.toNat) (show decide (¬ (x ≤ m0.1 58 0 i.toNat ∧ m0.1 58 0 i.toNat ≤ y ∧ (b < 0 ∨ m0.1 59 0 i.toNat = b))) = true from decide_eq_true (by omega))]; omega) (by exact zRdu_s hD (by omega) hz (show decide (¬ (x ≤ m0.1 58 0 i.toNat ∧ m0.1 58 0 i.toNat ≤ y ∧ (b < 0 ∨ m0.1 59 0 i.toNat = b))) = true from decide_eq_true (by omega)) hm10 hm14 hm18 hm21)
      · show wW (zK sc) zM192 30 [(0, .inr (.inr (.inl (some (34, 0))))), (1, .inl x), (2, .inl y), (3, .inl b), (4, .inl u), (5, .inl i)] [] _ _ _
        refine ww_go 1 (pc' := 31) (L' := [(0, .inr (.inr (.inl (some (34, 0))))), (1, .inl x), (2, .inl y), (3, .inl b), (4, .inl u), (5, .inl i)]) (st' := [.inl b]) (m' := m) (o := none) rfl trivial ?_
        refine ww_if (t := 107) rfl rfl (by omega) (fun (h23 : b < 0) => ?_) (fun (h23 : ¬ (b < 0)) => ?_)
        · show wW (zK sc) zM192 107 [(0, .inr (.inr (.inl (some (34, 0))))), (1, .inl x), (2, .inl y), (3, .inl b), (4, .inl u), (5, .inl i)] [] _ _ _
          refine ww_go 2 (pc' := 6) (L' := [(5, .inl (i + 1)), (0, .inr (.inr (.inl (some (34, 0))))), (1, .inl x), (2, .inl y), (3, .inl b), (4, .inl u)]) (st' := []) (m' := m) (o := none) rfl trivial ?_
          refine ww_sub (L := [(0, .inr (.inr (.inl (some (34, 0))))), (1, .inl x), (2, .inl y), (3, .inl b), (4, .inl u), (5, .inl (i + 1))]) ⟨rfl, rfl, rfl, rfl, rfl, rfl, trivial⟩ rfl rfl ?_
          exact (ih _ (by omega)) u (i + 1) m rfl (zB_mono hGm (by omega)) hFm (by omega) (by exact fun q h9 => by skip; exact hq q (by omega)) (by first | exact fun _ hz => (by obtain ⟨q, z1, z2, _⟩ := hz; omega) | exact fun _ _ => (by omega) | exact fun hb hz => (by obtain ⟨q, z1, z2, z3, z4⟩ := hz; exact (Decidable.em (q < i)).elim (fun h9 => by have := hh hb ⟨q, z1, h9, z3, z4⟩; omega) (fun h9 => by have h8 : q = i := (by omega); rw [h8] at z3 z4; have := hq i (by omega); omega))) (by rw [show (i + 1).toNat = i.toNat + 1 from by omega, zct_n (P := zRk m0 x y b) (u := i.toNat) (show decide (¬ (x ≤ m0.1 58 0 i.toNat ∧ m0.1 58 0 i.toNat ≤ y ∧ (b < 0 ∨ m0.1 59 0 i.toNat = b))) = false from decide_eq_false (by omega))]; exact hz) (by exact zRdu_n hD (by omega) (show decide (¬ (x ≤ m0.1 58 0 i.toNat ∧ m0.1 58 0 i.toNat ≤ y ∧ (b < 0 ∨ m0.1 59 0 i.toNat = b))) = false from decide_eq_false (by omega)))
        · show wW (zK sc) zM192 34 [(0, .inr (.inr (.inl (some (34, 0))))), (1, .inl x), (2, .inl y), (3, .inl b), (4, .inl u), (5, .inl i)] [] _ _ _
          have b24 : 0 ≤ m.1 59 0 i.toNat ∧ m.1 59 0 i.toNat ≤ 1 := hGm.1 59 _ rfl _ _
          refine ww_go 5 (pc' := 42) (L' := [(0, .inr (.inr (.inl (some (34, 0))))), (1, .inl x), (2, .inl y), (3, .inl b), (4, .inl u), (5, .inl i)]) (st' := [.inl b, .inl (m.1 59 0 i.toNat)]) (m' := m) (o := some ((0 < 1) ∧ (0 < 1 ∧ 0 ≤ i ∧ i < ((24 : Nat) : Int)))) rfl (show (0 < 1) ∧ (0 < 1 ∧ 0 ≤ i ∧ i < ((24 : Nat) : Int)) from by omega) ?_
          refine ww_ic (t := 48) rfl rfl (by omega) (fun (h25 : m.1 59 0 i.toNat ≠ b) => ?_) (fun (h25 : ¬ (m.1 59 0 i.toNat ≠ b)) => ?_)
          · show wW (zK sc) zM192 48 [(0, .inr (.inr (.inl (some (34, 0))))), (1, .inl x), (2, .inl y), (3, .inl b), (4, .inl u), (5, .inl i)] [] _ _ _
            have b26 : 0 ≤ m.1 58 0 i.toNat ∧ m.1 58 0 i.toNat ≤ 55 := hGm.1 58 _ rfl _ _
            refine ww_go 8 (pc' := 62) (L' := [(0, .inr (.inr (.inl (some (34, 0))))), (1, .inl x), (2, .inl y), (3, .inl b), (4, .inl u), (5, .inl i)]) (st' := []) (m' := wuI m 58 0 u.toNat (m.1 58 0 i.toNat)) (o := some ((0 < 1) ∧ (0 < 1) ∧ (0 < 1 ∧ 0 ≤ i ∧ i < ((24 : Nat) : Int)) ∧ (0 < 1 ∧ 0 ≤ u ∧ u < ((24 : Nat) : Int)))) rfl (show (0 < 1) ∧ (0 < 1) ∧ (0 < 1 ∧ 0 ≤ i ∧ i < ((24 : Nat) : Int)) ∧ (0 < 1 ∧ 0 ≤ u ∧ u < ((24 : Nat) : Int)) from by omega) ?_
            obtain ⟨m27, hm27⟩ : ∃ zq9 : wm, zq9 = wuI m 58 0 u.toNat (m.1 58 0 i.toNat) := ⟨_, rfl⟩
            rw [← hm27]
            have hGm27 : zB c m27 := by rw [hm27]; exact zB_wI rfl (show 0 ≤ m.1 58 0 i.toNat ∧ m.1 58 0 i.toNat ≤ 55 from by omega) hGm
            have hFm27 : zfr (fun k i j => (k = 58) ∨ (k = 59) ∨ (k = 60) ∨ (k = 61) ∨ (k = 34 ∧ j = 30)) m0 m27 := by rw [hm27]; exact zfr_wI hFm (show (58 = 58) ∨ (58 = 59) ∨ (58 = 60) ∨ (58 = 61) ∨ (58 = 34 ∧ u.toNat = 30) from Or.inl rfl)
            have s28 : m27.1 58 0 u.toNat = m.1 58 0 i.toNat := by rw [hm27]; exact wuI_self
            have w29 : m27.1 34 0 30 = m.1 34 0 30 := by rw [hm27]; rfl
            have b30 : 0 ≤ m27.1 59 0 i.toNat ∧ m27.1 59 0 i.toNat ≤ 1 := hGm27.1 59 _ rfl _ _
            refine ww_go 8 (pc' := 76) (L' := [(0, .inr (.inr (.inl (some (34, 0))))), (1, .inl x), (2, .inl y), (3, .inl b), (4, .inl u), (5, .inl i)]) (st' := []) (m' := wuI m27 59 0 u.toNat (m27.1 59 0 i.toNat)) (o := some ((0 < 1) ∧ (0 < 1) ∧ (0 < 1 ∧ 0 ≤ i ∧ i < ((24 : Nat) : Int)) ∧ (0 < 1 ∧ 0 ≤ u ∧ u < ((24 : Nat) : Int)))) rfl (show (0 < 1) ∧ (0 < 1) ∧ (0 < 1 ∧ 0 ≤ i ∧ i < ((24 : Nat) : Int)) ∧ (0 < 1 ∧ 0 ≤ u ∧ u < ((24 : Nat) : Int)) from by omega) ?_
            obtain ⟨m31, hm31⟩ : ∃ zq9 : wm, zq9 = wuI m27 59 0 u.toNat (m27.1 59 0 i.toNat) := ⟨_, rfl⟩
            rw [← hm31]
            have hGm31 : zB c m31 := by rw [hm31]; exact zB_wI rfl (show 0 ≤ m27.1 59 0 i.toNat ∧ m27.1 59 0 i.toNat ≤ 1 from by omega) hGm27
            have hFm31 : zfr (fun k i j => (k = 58) ∨ (k = 59) ∨ (k = 60) ∨ (k = 61) ∨ (k = 34 ∧ j = 30)) m0 m31 := by rw [hm31]; exact zfr_wI hFm27 (show (59 = 58) ∨ (59 = 59) ∨ (59 = 60) ∨ (59 = 61) ∨ (59 = 34 ∧ u.toNat = 30) from Or.inr (Or.inl rfl))
            have s32 : m31.1 59 0 u.toNat = m27.1 59 0 i.toNat := by rw [hm31]; exact wuI_self
            have w33 : m31.1 34 0 30 = m27.1 34 0 30 := by rw [hm31]; rfl
            have b34 : (-2147483648) ≤ m31.1 60 0 i.toNat ∧ m31.1 60 0 i.toNat ≤ 2147483647 := hGm31.1 60 _ rfl _ _
            refine ww_go 8 (pc' := 90) (L' := [(0, .inr (.inr (.inl (some (34, 0))))), (1, .inl x), (2, .inl y), (3, .inl b), (4, .inl u), (5, .inl i)]) (st' := []) (m' := wuI m31 60 0 u.toNat (m31.1 60 0 i.toNat)) (o := some ((0 < 1) ∧ (0 < 1) ∧ (0 < 1 ∧ 0 ≤ i ∧ i < ((24 : Nat) : Int)) ∧ (0 < 1 ∧ 0 ≤ u ∧ u < ((24 : Nat) : Int)))) rfl (show (0 < 1) ∧ (0 < 1) ∧ (0 < 1 ∧ 0 ≤ i ∧ i < ((24 : Nat) : Int)) ∧ (0 < 1 ∧ 0 ≤ u ∧ u < ((24 : Nat) : Int)) from by omega) ?_
            obtain ⟨m35, hm35⟩ : ∃ zq9 : wm, zq9 = wuI m31 60 0 u.toNat (m31.1 60 0 i.toNat) := ⟨_, rfl⟩
            rw [← hm35]
            have hGm35 : zB c m35 := by rw [hm35]; exact zB_wI rfl (show (-2147483648) ≤ m31.1 60 0 i.toNat ∧ m31.1 60 0 i.toNat ≤ 2147483647 from by omega) hGm31
            have hFm35 : zfr (fun k i j => (k = 58) ∨ (k = 59) ∨ (k = 60) ∨ (k = 61) ∨ (k = 34 ∧ j = 30)) m0 m35 := by rw [hm35]; exact zfr_wI hFm31 (show (60 = 58) ∨ (60 = 59) ∨ (60 = 60) ∨ (60 = 61) ∨ (60 = 34 ∧ u.toNat = 30) from Or.inr (Or.inr (Or.inl rfl)))
            have s36 : m35.1 60 0 u.toNat = m31.1 60 0 i.toNat := by rw [hm35]; exact wuI_self
            have w37 : m35.1 34 0 30 = m31.1 34 0 30 := by rw [hm35]; rfl
            refine ww_go 8 (pc' := 104) (L' := [(0, .inr (.inr (.inl (some (34, 0))))), (1, .inl x), (2, .inl y), (3, .inl b), (4, .inl u), (5, .inl i)]) (st' := []) (m' := wuL m35 61 0 u.toNat (m35.2.1 61 0 i.toNat)) (o := some ((0 < 1) ∧ (0 < 1) ∧ (0 < 1 ∧ 0 ≤ i ∧ i < ((24 : Nat) : Int)) ∧ (0 < 1 ∧ 0 ≤ u ∧ u < ((24 : Nat) : Int)))) rfl (show (0 < 1) ∧ (0 < 1) ∧ (0 < 1 ∧ 0 ≤ i ∧ i < ((24 : Nat) : Int)) ∧ (0 < 1 ∧ 0 ≤ u ∧ u < ((24 : Nat) : Int)) from by omega) ?_
            obtain ⟨m38, hm38⟩ : ∃ zq9 : wm, zq9 = wuL m35 61 0 u.toNat (m35.2.1 61 0 i.toNat) := ⟨_, rfl⟩
            rw [← hm38]
            have hGm38 : zB c m38 := by rw [hm38]; exact zB_wL hGm35
            have hFm38 : zfr (fun k i j => (k = 58) ∨ (k = 59) ∨ (k = 60) ∨ (k = 61) ∨ (k = 34 ∧ j = 30)) m0 m38 := by rw [hm38]; exact zfr_wL hFm35 (show (61 = 58) ∨ (61 = 59) ∨ (61 = 60) ∨ (61 = 61) ∨ (61 = 34 ∧ u.toNat = 30) from Or.inr (Or.inr (Or.inr (Or.inl rfl))))
            have w39 : m38.1 34 0 30 = m35.1 34 0 30 := by rw [hm38]; rfl
            refine ww_go 3 (pc' := 6) (L' := [(5, .inl (i + 1)), (4, .inl (u + 1)), (0, .inr (.inr (.inl (some (34, 0))))), (1, .inl x), (2, .inl y), (3, .inl b)]) (st' := []) (m' := m38) (o := none) rfl trivial ?_
            refine ww_sub (L := [(0, .inr (.inr (.inl (some (34, 0))))), (1, .inl x), (2, .inl y), (3, .inl b), (4, .inl (u + 1)), (5, .inl (i + 1))]) ⟨rfl, rfl, rfl, rfl, rfl, rfl, trivial⟩ rfl rfl ?_
            exact (ih _ (by omega)) (u + 1) (i + 1) m38 rfl (zB_mono hGm38 (by omega)) hFm38 (by omega) (by exact fun q h9 => by rw [hm38]; show m35.1 58 0 q.toNat = _; rw [hm35]; show m31.1 58 0 q.toNat = _; rw [hm31]; show m27.1 58 0 q.toNat = _; rw [hm27]; rw [wuI_nj (by omega)]; exact hq q (by omega)) (by first | exact fun _ hz => (by obtain ⟨q, z1, z2, _⟩ := hz; omega) | exact fun _ _ => (by omega) | exact fun hb hz => (by obtain ⟨q, z1, z2, z3, z4⟩ := hz; exact (Decidable.em (q < i)).elim (fun h9 => by have := hh hb ⟨q, z1, h9, z3, z4⟩; omega) (fun h9 => by have h8 : q = i := (by omega); rw [h8] at z3 z4; have := hq i (by omega); omega))) (by rw [show (i + 1).toNat = i.toNat + 1 from by omega, zct_s (P := zRk m0 x y b) (u := i.toNat) (show decide (¬ (x ≤ m0.1 58 0 i.toNat ∧ m0.1 58 0 i.toNat ≤ y ∧ (b < 0 ∨ m0.1 59 0 i.toNat = b))) = true from decide_eq_true (by omega))]; omega) (by exact zRdu_s hD (by omega) hz (show decide (¬ (x ≤ m0.1 58 0 i.toNat ∧ m0.1 58 0 i.toNat ≤ y ∧ (b < 0 ∨ m0.1 59 0 i.toNat = b))) = true from decide_eq_true (by omega)) hm27 hm31 hm35 hm38)
          · show wW (zK sc) zM192 45 [(0, .inr (.inr (.inl (some (34, 0))))), (1, .inl x), (2, .inl y), (3, .inl b), (4, .inl u), (5, .inl i)] [] _ _ _
            refine ww_go 3 (pc' := 6) (L' := [(5, .inl (i + 1)), (0, .inr (.inr (.inl (some (34, 0))))), (1, .inl x), (2, .inl y), (3, .inl b), (4, .inl u)]) (st' := []) (m' := m) (o := none) rfl trivial ?_
            refine ww_sub (L := [(0, .inr (.inr (.inl (some (34, 0))))), (1, .inl x), (2, .inl y), (3, .inl b), (4, .inl u), (5, .inl (i + 1))]) ⟨rfl, rfl, rfl, rfl, rfl, rfl, trivial⟩ rfl rfl ?_
            exact (ih _ (by omega)) u (i + 1) m rfl (zB_mono hGm (by omega)) hFm (by omega) (by exact fun q h9 => by skip; exact hq q (by omega)) (by first | exact fun _ hz => (by obtain ⟨q, z1, z2, _⟩ := hz; omega) | exact fun _ _ => (by omega) | exact fun hb hz => (by obtain ⟨q, z1, z2, z3, z4⟩ := hz; exact (Decidable.em (q < i)).elim (fun h9 => by have := hh hb ⟨q, z1, h9, z3, z4⟩; omega) (fun h9 => by have h8 : q = i := (by omega); rw [h8] at z3 z4; have := hq i (by omega); omega))) (by rw [show (i + 1).toNat = i.toNat + 1 from by omega, zct_n (P := zRk m0 x y b) (u := i.toNat) (show decide (¬ (x ≤ m0.1 58 0 i.toNat ∧ m0.1 58 0 i.toNat ≤ y ∧ (b < 0 ∨ m0.1 59 0 i.toNat = b))) = false from decide_eq_false (by omega))]; exact hz) (by exact zRdu_n hD (by omega) (show decide (¬ (x ≤ m0.1 58 0 i.toNat ∧ m0.1 58 0 i.toNat ≤ y ∧ (b < 0 ∨ m0.1 59 0 i.toNat = b))) = false from decide_eq_false (by omega)))
set_option maxRecDepth 8000 in
/-- Mo.drop -/
theorem yt192 {sc : xSc} {n : Nat × Nat} {m0 : wm} {c : Int} (hc : 0 ≤ c ∧ c ≤ 1000000) (x : Int) (y : Int) (b : Int) (hG : zB c m0) (h0 : -2147483648 ≤ x ∧ x ≤ 2147483647 ∧ -2147483648 ≤ y ∧ y ≤ 2147483647 ∧ -2147483648 ≤ b ∧ b ≤ 2147483647) : wX (zK sc) 192 [.inr (.inr (.inl (some (34, 0)))), .inl x, .inl y, .inl b] n m0 (wr (fun vv n1 m1 => vv = none ∧ n = n1 ∧ zB c m1 ∧ zfr (fun k i j => (k = 58) ∨ (k = 59) ∨ (k = 60) ∨ (k = 61) ∨ (k = 34 ∧ j = 30)) m0 m1 ∧ (m1.1 34 0 30 ≤ m0.1 34 0 30 ∧ (b < 0 → zHit m0 (m0.1 34 0 30) x y → m1.1 34 0 30 < m0.1 34 0 30) ∧ zRdr m0 m1 x y b))) := by
  refine wX_of (N := zM192) rfl (Nat.le_of_ble_eq_true rfl) ?_
  show wW (zK sc) zM192 0 [(0, .inr (.inr (.inl (some (34, 0))))), (1, .inl x), (2, .inl y), (3, .inl b)] [] n m0 _
  have hF : zfr (fun k i j => (k = 58) ∨ (k = 59) ∨ (k = 60) ∨ (k = 61) ∨ (k = 34 ∧ j = 30)) m0 m0 := zfr_rf
  have q0 : 0 ≤ m0.1 34 0 30 ∧ m0.1 34 0 30 ≤ 24 := hG.1 34 _ rfl _ _
  refine ww_go 4 (pc' := 6) (L' := [(5, .inl 0), (4, .inl 0), (0, .inr (.inr (.inl (some (34, 0))))), (1, .inl x), (2, .inl y), (3, .inl b)]) (st' := []) (m' := m0) (o := none) rfl trivial ?_
  refine ww_sub (L := [(0, .inr (.inr (.inl (some (34, 0))))), (1, .inl x), (2, .inl y), (3, .inl b), (4, .inl 0), (5, .inl 0)]) ⟨rfl, rfl, rfl, rfl, rfl, rfl, trivial⟩ rfl rfl ?_
  exact (yt192_l6 hc x y b hG h0 _) 0 0 m0 rfl (zB_mono hG (by omega)) hF (by omega) (by exact fun q _ => rfl) (by first | exact fun _ hz => (by obtain ⟨q, z1, z2, _⟩ := hz; omega) | exact fun _ _ => (by omega) | exact fun hb hz => (by obtain ⟨q, z1, z2, z3, z4⟩ := hz; exact (Decidable.em (q < i)).elim (fun h9 => by have := hh hb ⟨q, z1, h9, z3, z4⟩; omega) (fun h9 => by have h8 : q = i := (by omega); rw [h8] at z3 z4; have := hq i (by omega); omega))) (by rfl) (by exact zRdu_0)
set_option maxRecDepth 8000 in
theorem yt254_l2 {sc : xSc} {n : Nat × Nat} {m0 : wm} {c : Int} (hc : 0 ≤ c ∧ c ≤ 1000000)  (hG : zB c m0) : ∀ (d : Nat), (∀ (i : Int) (m : wm), (56 - i).toNat * 100 + 99 = d → zB c m → zfr (fun k i j => (k = 54)) m0 m → (0 ≤ i ∧ i ≤ 56) → (zUs m0 m) → (zUf m0 m i) →  wW (zK sc) zM254 2 [(0, .inr (.inr (.inl (some (34, 0))))), (1, .inl i)] [] n m (wr (fun vv n1 m1 => vv = none ∧ n = n1 ∧ zB c m1 ∧ zfr (fun k i j => (k = 54)) m0 m1 ∧ (zUs m0 m1 ∧ zUf m0 m1 56)))) ∧ (∀ (i : Int) (s : Int) (k : Int) (m : wm), (56 - i).toNat * 100 + (24 - k).toNat = d → zB c m → zfr (fun k i j => (k = 54)) m0 m → (0 ≤ i ∧ i ≤ 55 ∧ 0 ≤ s ∧ s ≤ 1 ∧ 0 ≤ k ∧ k ≤ m0.1 34 0 30) → (zUs m0 m) → (zUf m0 m i) → (s = 0 → (m0.1 55 0 (2 * i).toNat = 0 ∧ m0.1 55 0 (2 * i + 1).toNat = 0)) → (s = 1 → zHas m0 i.toNat) → (s = 0 → ∀ r : Nat, (r : Int) < k → m0.1 58 0 r ≠ i) →  wW (zK sc) zM254 40 [(0, .inr (.inr (.inl (some (34, 0))))), (1, .inl i), (2, .inl s), (3, .inl k)] [] n m (wr (fun vv n1 m1 => vv = none ∧ n = n1 ∧ zB c m1 ∧ zfr (fun k i j => (k = 54)) m0 m1 ∧ (zUs m0 m1 ∧ zUf m0 m1 56)))) := by
  intro d
  induction d using Nat.strongRecOn with
  | ind d ih =>
    refine ⟨?_, ?_⟩
    · intro i m hd hGm hFm hi hu hf
      have w6 := (hFm 55 0 (2 * i).toNat (show ¬ ((55 = 54)) from by omega)).1
      have w7 := (hFm 55 0 (2 * i + 1).toNat (show ¬ ((55 = 54)) from by omega)).1
      have w8 := (hFm 34 0 30 (show ¬ ((34 = 54)) from by omega)).1
      have w9 : (m0.1 55 0 (2 * i).toNat = m0.1 55 0 (2 * i.toNat)) ∧ (m0.1 55 0 (2 * i + 1).toNat = m0.1 55 0 (2 * i.toNat + 1)) := by rw [show (2 * i).toNat = 2 * i.toNat from by omega, show (2 * i + 1).toNat = 2 * i.toNat + 1 from by omega]; exact ⟨rfl, rfl⟩
      have q0 : 0 ≤ m0.1 34 0 30 ∧ m0.1 34 0 30 ≤ 24 := hG.1 34 _ rfl _ _
      refine ww_go 2 (pc' := 5) (L' := [(0, .inr (.inr (.inl (some (34, 0))))), (1, .inl i)]) (st' := [.inl 56, .inl i]) (m' := m) (o := none) rfl trivial ?_
      refine ww_ic (t := 100) rfl rfl (by omega) (fun (h1 : 56 ≤ i) => ?_) (fun (h1 : ¬ (56 ≤ i)) => ?_)
      · show wW (zK sc) zM254 100 [(0, .inr (.inr (.inl (some (34, 0))))), (1, .inl i)] [] _ _ _
        exact ww_rV rfl rfl ⟨rfl, rfl, zB_mono hGm (by omega), hFm, ⟨hu, (by rw [show (56 : Int) = i from by omega]; exact hf)⟩⟩
      · show wW (zK sc) zM254 8 [(0, .inr (.inr (.inl (some (34, 0))))), (1, .inl i)] [] _ _ _
        have b2 : 0 ≤ m.1 55 0 ((2 * i).toNat) ∧ m.1 55 0 ((2 * i).toNat) ≤ 1 := hGm.1 55 _ rfl _ _
        refine ww_go 6 (pc' := 16) (L' := [(0, .inr (.inr (.inl (some (34, 0))))), (1, .inl i)]) (st' := [.inl (m.1 55 0 ((2 * i).toNat))]) (m' := m) (o := some ((0 < 1) ∧ (0 < 1 ∧ 0 ≤ 2 * i ∧ 2 * i < ((112 : Nat) : Int)))) rfl (show (0 < 1) ∧ (0 < 1 ∧ 0 ≤ 2 * i ∧ 2 * i < ((112 : Nat) : Int)) from by omega) ?_
        refine ww_if (t := 32) rfl rfl (by omega) (fun (h3 : m.1 55 0 ((2 * i).toNat) ≠ 0) => ?_) (fun (h3 : ¬ (m.1 55 0 ((2 * i).toNat) ≠ 0)) => ?_)
        · show wW (zK sc) zM254 32 [(0, .inr (.inr (.inl (some (34, 0))))), (1, .inl i)] [] _ _ _
          refine ww_go 5 (pc' := 40) (L' := [(3, .inl 0), (2, .inl 1), (0, .inr (.inr (.inl (some (34, 0))))), (1, .inl i)]) (st' := []) (m' := m) (o := none) rfl trivial ?_
          refine ww_sub (L := [(0, .inr (.inr (.inl (some (34, 0))))), (1, .inl i), (2, .inl 1), (3, .inl 0)]) ⟨rfl, rfl, rfl, rfl, trivial⟩ rfl rfl ?_
          exact (ih _ (by omega)).2 i 1 0 m rfl (zB_mono hGm (by omega)) hFm (by omega) (by exact hu) (by exact hf) (by omega) (by first | (intro z; omega) | exact fun _ => Or.inl (by omega) | exact fun _ => Or.inr (Or.inl (by omega))) (by first | (intro z; omega) | exact fun _ => fun r hr => absurd hr (by omega))
        · show wW (zK sc) zM254 19 [(0, .inr (.inr (.inl (some (34, 0))))), (1, .inl i)] [] _ _ _
          have b4 : 0 ≤ m.1 55 0 (((2 * i) + 1).toNat) ∧ m.1 55 0 (((2 * i) + 1).toNat) ≤ 1 := hGm.1 55 _ rfl _ _
          refine ww_go 8 (pc' := 29) (L' := [(0, .inr (.inr (.inl (some (34, 0))))), (1, .inl i)]) (st' := [.inl (m.1 55 0 (((2 * i) + 1).toNat))]) (m' := m) (o := some ((0 < 1) ∧ (0 < 1 ∧ 0 ≤ (2 * i) + 1 ∧ (2 * i) + 1 < ((112 : Nat) : Int)))) rfl (show (0 < 1) ∧ (0 < 1 ∧ 0 ≤ (2 * i) + 1 ∧ (2 * i) + 1 < ((112 : Nat) : Int)) from by omega) ?_
          refine ww_if (t := 36) rfl rfl (by omega) (fun (h5 : m.1 55 0 (((2 * i) + 1).toNat) = 0) => ?_) (fun (h5 : ¬ (m.1 55 0 (((2 * i) + 1).toNat) = 0)) => ?_)
          · show wW (zK sc) zM254 36 [(0, .inr (.inr (.inl (some (34, 0))))), (1, .inl i)] [] _ _ _
            refine ww_go 4 (pc' := 40) (L' := [(3, .inl 0), (2, .inl 0), (0, .inr (.inr (.inl (some (34, 0))))), (1, .inl i)]) (st' := []) (m' := m) (o := none) rfl trivial ?_
            refine ww_sub (L := [(0, .inr (.inr (.inl (some (34, 0))))), (1, .inl i), (2, .inl 0), (3, .inl 0)]) ⟨rfl, rfl, rfl, rfl, trivial⟩ rfl rfl ?_
            exact (ih _ (by omega)).2 i 0 0 m rfl (zB_mono hGm (by omega)) hFm (by omega) (by exact hu) (by exact hf) (by omega) (by first | (intro z; omega) | exact fun _ => Or.inl (by omega) | exact fun _ => Or.inr (Or.inl (by omega))) (by first | (intro z; omega) | exact fun _ => fun r hr => absurd hr (by omega))
          · show wW (zK sc) zM254 32 [(0, .inr (.inr (.inl (some (34, 0))))), (1, .inl i)] [] _ _ _
            refine ww_go 5 (pc' := 40) (L' := [(3, .inl 0), (2, .inl 1), (0, .inr (.inr (.inl (some (34, 0))))), (1, .inl i)]) (st' := []) (m' := m) (o := none) rfl trivial ?_
            refine ww_sub (L := [(0, .inr (.inr (.inl (some (34, 0))))), (1, .inl i), (2, .inl 1), (3, .inl 0)]) ⟨rfl, rfl, rfl, rfl, trivial⟩ rfl rfl ?_
            exact (ih _ (by omega)).2 i 1 0 m rfl (zB_mono hGm (by omega)) hFm (by omega) (by exact hu) (by exact hf) (by omega) (by first | (intro z; omega) | exact fun _ => Or.inl (by omega) | exact fun _ => Or.inr (Or.inl (by omega))) (by first | (intro z; omega) | exact fun _ => fun r hr => absurd hr (by omega))
    · intro i s k m hd hGm hFm hi hu hf hs hs1 hsn
      have w6 := (hFm 55 0 (2 * i).toNat (show ¬ ((55 = 54)) from by omega)).1
      have w7 := (hFm 55 0 (2 * i + 1).toNat (show ¬ ((55 = 54)) from by omega)).1
      have w8 := (hFm 34 0 30 (show ¬ ((34 = 54)) from by omega)).1
      have w9 : (m0.1 55 0 (2 * i).toNat = m0.1 55 0 (2 * i.toNat)) ∧ (m0.1 55 0 (2 * i + 1).toNat = m0.1 55 0 (2 * i.toNat + 1)) := by rw [show (2 * i).toNat = 2 * i.toNat from by omega, show (2 * i + 1).toNat = 2 * i.toNat + 1 from by omega]; exact ⟨rfl, rfl⟩
      have q0 : 0 ≤ m0.1 34 0 30 ∧ m0.1 34 0 30 ≤ 24 := hG.1 34 _ rfl _ _
      have hs0 : s = 0 → m0.1 34 0 30 ≤ k → ¬ zHas m0 i.toNat := fun z1 z2 z3 => (by rcases z3 with z3 | z3 | ⟨r, z4, z5⟩; (have := hs z1; omega); (have := hs z1; omega); (have := hsn z1 r (by unfold zRu at z4; omega); omega))
      have b1 : 0 ≤ m.1 34 0 30 ∧ m.1 34 0 30 ≤ 24 := hGm.1 34 _ rfl _ _
      refine ww_go 3 (pc' := 45) (L' := [(0, .inr (.inr (.inl (some (34, 0))))), (1, .inl i), (2, .inl s), (3, .inl k)]) (st' := [.inl (m.1 34 0 30), .inl k]) (m' := m) (o := some ((0 < 1))) rfl (show (0 < 1) from by omega) ?_
      refine ww_ic (t := 74) rfl rfl (by omega) (fun (h2 : m.1 34 0 30 ≤ k) => ?_) (fun (h2 : ¬ (m.1 34 0 30 ≤ k)) => ?_)
      · show wW (zK sc) zM254 74 [(0, .inr (.inr (.inl (some (34, 0))))), (1, .inl i), (2, .inl s), (3, .inl k)] [] _ _ _
        refine ww_go 4 (pc' := 80) (L' := [(0, .inr (.inr (.inl (some (34, 0))))), (1, .inl i), (2, .inl s), (3, .inl k)]) (st' := [.inl s, .inl i, .inr (.inr (.inl (some (54, 0))))]) (m' := m) (o := some ((0 < 1))) rfl (show (0 < 1) from by omega) ?_
        refine ww_if (t := 92) rfl rfl (by omega) (fun (h3 : s = 0) => ?_) (fun (h3 : ¬ (s = 0)) => ?_)
        · show wW (zK sc) zM254 92 [(0, .inr (.inr (.inl (some (34, 0))))), (1, .inl i), (2, .inl s), (3, .inl k)] [.inl i, .inr (.inr (.inl (some (54, 0))))] _ _ _
          refine ww_go 2 (pc' := 94) (L' := [(0, .inr (.inr (.inl (some (34, 0))))), (1, .inl i), (2, .inl s), (3, .inl k)]) (st' := []) (m' := wuI m 54 0 i.toNat ((-1))) (o := some ((0 < 1 ∧ 0 ≤ i ∧ i < ((56 : Nat) : Int)))) rfl (show (0 < 1 ∧ 0 ≤ i ∧ i < ((56 : Nat) : Int)) from by omega) ?_
          obtain ⟨m4, hm4⟩ : ∃ zq9 : wm, zq9 = wuI m 54 0 i.toNat ((-1)) := ⟨_, rfl⟩
          rw [← hm4]
          have hGm4 : zB c m4 := by rw [hm4]; exact zB_wI rfl (show (-1) ≤ ((-1) : Int) ∧ ((-1) : Int) ≤ 104 from by omega) hGm
          have hFm4 : zfr (fun k i j => (k = 54)) m0 m4 := by rw [hm4]; exact zfr_wI hFm (show (54 = 54) from rfl)
          have s5 : m4.1 54 0 i.toNat = ((-1) : Int) := by rw [hm4]; exact wuI_self
          refine ww_go 2 (pc' := 2) (L' := [(1, .inl (i + 1)), (0, .inr (.inr (.inl (some (34, 0))))), (2, .inl s), (3, .inl k)]) (st' := []) (m' := m4) (o := none) rfl trivial ?_
          refine ww_sub (L := [(0, .inr (.inr (.inl (some (34, 0))))), (1, .inl (i + 1))]) ⟨rfl, rfl, trivial⟩ rfl rfl ?_
          exact (ih _ (by omega)).1 (i + 1) m4 rfl (zB_mono hGm4 (by omega)) hFm4 (by omega) (by rw [hm4]; exact zUs_w hu (by omega) (by omega)) (by exact zUf_s hf (by omega) hm4 (fun z9 => (by first | exact (hf i.toNat (by omega)).2 (by omega) | exact absurd z9 (hs0 (by omega) (by omega)))) (fun z9 => (by first | rfl | exact absurd (hs1 (by omega)) z9)))
        · show wW (zK sc) zM254 83 [(0, .inr (.inr (.inl (some (34, 0))))), (1, .inl i), (2, .inl s), (3, .inl k)] [.inl i, .inr (.inr (.inl (some (54, 0))))] _ _ _
          have b6 : (-1) ≤ m.1 54 0 i.toNat ∧ m.1 54 0 i.toNat ≤ 104 := hGm.1 54 _ rfl _ _
          refine ww_go 6 (pc' := 94) (L' := [(0, .inr (.inr (.inl (some (34, 0))))), (1, .inl i), (2, .inl s), (3, .inl k)]) (st' := []) (m' := wuI m 54 0 i.toNat (m.1 54 0 i.toNat)) (o := some ((0 < 1) ∧ (0 < 1 ∧ 0 ≤ i ∧ i < ((56 : Nat) : Int)) ∧ (0 < 1 ∧ 0 ≤ i ∧ i < ((56 : Nat) : Int)))) rfl (show (0 < 1) ∧ (0 < 1 ∧ 0 ≤ i ∧ i < ((56 : Nat) : Int)) ∧ (0 < 1 ∧ 0 ≤ i ∧ i < ((56 : Nat) : Int)) from by omega) ?_
          obtain ⟨m7, hm7⟩ : ∃ zq9 : wm, zq9 = wuI m 54 0 i.toNat (m.1 54 0 i.toNat) := ⟨_, rfl⟩
          rw [← hm7]
          have hGm7 : zB c m7 := by rw [hm7]; exact zB_wI rfl (show (-1) ≤ m.1 54 0 i.toNat ∧ m.1 54 0 i.toNat ≤ 104 from by omega) hGm
          have hFm7 : zfr (fun k i j => (k = 54)) m0 m7 := by rw [hm7]; exact zfr_wI hFm (show (54 = 54) from rfl)
          have s8 : m7.1 54 0 i.toNat = m.1 54 0 i.toNat := by rw [hm7]; exact wuI_self
          refine ww_go 2 (pc' := 2) (L' := [(1, .inl (i + 1)), (0, .inr (.inr (.inl (some (34, 0))))), (2, .inl s), (3, .inl k)]) (st' := []) (m' := m7) (o := none) rfl trivial ?_
          refine ww_sub (L := [(0, .inr (.inr (.inl (some (34, 0))))), (1, .inl (i + 1))]) ⟨rfl, rfl, trivial⟩ rfl rfl ?_
          exact (ih _ (by omega)).1 (i + 1) m7 rfl (zB_mono hGm7 (by omega)) hFm7 (by omega) (by rw [hm7]; exact zUs_w hu (by omega) (by omega)) (by exact zUf_s hf (by omega) hm7 (fun z9 => (by first | exact (hf i.toNat (by omega)).2 (by omega) | exact absurd z9 (hs0 (by omega) (by omega)))) (fun z9 => (by first | rfl | exact absurd (hs1 (by omega)) z9)))
      · show wW (zK sc) zM254 48 [(0, .inr (.inr (.inl (some (34, 0))))), (1, .inl i), (2, .inl s), (3, .inl k)] [] _ _ _
        refine ww_go 1 (pc' := 49) (L' := [(0, .inr (.inr (.inl (some (34, 0))))), (1, .inl i), (2, .inl s), (3, .inl k)]) (st' := [.inl s]) (m' := m) (o := none) rfl trivial ?_
        refine ww_if (t := 62) rfl rfl (by omega) (fun (h9 : s ≠ 0) => ?_) (fun (h9 : ¬ (s ≠ 0)) => ?_)
        · show wW (zK sc) zM254 62 [(0, .inr (.inr (.inl (some (34, 0))))), (1, .inl i), (2, .inl s), (3, .inl k)] [] _ _ _
          refine ww_go 5 (pc' := 40) (L' := [(3, .inl (k + 1)), (2, .inl 1), (0, .inr (.inr (.inl (some (34, 0))))), (1, .inl i)]) (st' := []) (m' := m) (o := none) rfl trivial ?_
          refine ww_sub (L := [(0, .inr (.inr (.inl (some (34, 0))))), (1, .inl i), (2, .inl 1), (3, .inl (k + 1))]) ⟨rfl, rfl, rfl, rfl, trivial⟩ rfl rfl ?_
          exact (ih _ (by omega)).2 i 1 (k + 1) m rfl (zB_mono hGm (by omega)) hFm (by omega) (by exact hu) (by exact hf) (by omega) (by first | exact fun _ => hs1 (by omega) | (intro z; omega) | exact fun _ => Or.inr (Or.inr ⟨k.toNat, by unfold zRu; omega, by have z8 := (hFm 58 0 k.toNat (show ¬ ((58 = 54)) from by omega)).1; omega⟩)) (by first | (intro z; omega) | exact fun z r hr => (Decidable.em ((r : Int) < k)).elim (fun h9 => hsn (by omega) r h9) (fun h9 => (by have z8 := (hFm 58 0 k.toNat (show ¬ ((58 = 54)) from by omega)).1; rw [show r = k.toNat from by omega]; omega)))
        · show wW (zK sc) zM254 52 [(0, .inr (.inr (.inl (some (34, 0))))), (1, .inl i), (2, .inl s), (3, .inl k)] [] _ _ _
          have b10 : 0 ≤ m.1 58 0 k.toNat ∧ m.1 58 0 k.toNat ≤ 55 := hGm.1 58 _ rfl _ _
          refine ww_go 5 (pc' := 59) (L' := [(0, .inr (.inr (.inl (some (34, 0))))), (1, .inl i), (2, .inl s), (3, .inl k)]) (st' := [.inl i, .inl (m.1 58 0 k.toNat)]) (m' := m) (o := some ((0 < 1) ∧ (0 < 1 ∧ 0 ≤ k ∧ k < ((24 : Nat) : Int)))) rfl (show (0 < 1) ∧ (0 < 1 ∧ 0 ≤ k ∧ k < ((24 : Nat) : Int)) from by omega) ?_
          refine ww_ic (t := 66) rfl rfl (by omega) (fun (h11 : m.1 58 0 k.toNat ≠ i) => ?_) (fun (h11 : ¬ (m.1 58 0 k.toNat ≠ i)) => ?_)
          · show wW (zK sc) zM254 66 [(0, .inr (.inr (.inl (some (34, 0))))), (1, .inl i), (2, .inl s), (3, .inl k)] [] _ _ _
            refine ww_go 4 (pc' := 40) (L' := [(3, .inl (k + 1)), (2, .inl 0), (0, .inr (.inr (.inl (some (34, 0))))), (1, .inl i)]) (st' := []) (m' := m) (o := none) rfl trivial ?_
            refine ww_sub (L := [(0, .inr (.inr (.inl (some (34, 0))))), (1, .inl i), (2, .inl 0), (3, .inl (k + 1))]) ⟨rfl, rfl, rfl, rfl, trivial⟩ rfl rfl ?_
            exact (ih _ (by omega)).2 i 0 (k + 1) m rfl (zB_mono hGm (by omega)) hFm (by omega) (by exact hu) (by exact hf) (by omega) (by first | exact fun _ => hs1 (by omega) | (intro z; omega) | exact fun _ => Or.inr (Or.inr ⟨k.toNat, by unfold zRu; omega, by have z8 := (hFm 58 0 k.toNat (show ¬ ((58 = 54)) from by omega)).1; omega⟩)) (by first | (intro z; omega) | exact fun z r hr => (Decidable.em ((r : Int) < k)).elim (fun h9 => hsn (by omega) r h9) (fun h9 => (by have z8 := (hFm 58 0 k.toNat (show ¬ ((58 = 54)) from by omega)).1; rw [show r = k.toNat from by omega]; omega)))
          · show wW (zK sc) zM254 62 [(0, .inr (.inr (.inl (some (34, 0))))), (1, .inl i), (2, .inl s), (3, .inl k)] [] _ _ _
            refine ww_go 5 (pc' := 40) (L' := [(3, .inl (k + 1)), (2, .inl 1), (0, .inr (.inr (.inl (some (34, 0))))), (1, .inl i)]) (st' := []) (m' := m) (o := none) rfl trivial ?_
            refine ww_sub (L := [(0, .inr (.inr (.inl (some (34, 0))))), (1, .inl i), (2, .inl 1), (3, .inl (k + 1))]) ⟨rfl, rfl, rfl, rfl, trivial⟩ rfl rfl ?_
            exact (ih _ (by omega)).2 i 1 (k + 1) m rfl (zB_mono hGm (by omega)) hFm (by omega) (by exact hu) (by exact hf) (by omega) (by first | exact fun _ => hs1 (by omega) | (intro z; omega) | exact fun _ => Or.inr (Or.inr ⟨k.toNat, by unfold zRu; omega, by have z8 := (hFm 58 0 k.toNat (show ¬ ((58 = 54)) from by omega)).1; omega⟩)) (by first | (intro z; omega) | exact fun z r hr => (Decidable.em ((r : Int) < k)).elim (fun h9 => hsn (by omega) r h9) (fun h9 => (by have z8 := (hFm 58 0 k.toNat (show ¬ ((58 = 54)) from by omega)).1; rw [show r = k.toNat from by omega]; omega)))
set_option maxRecDepth 8000 in
/-- Mo.unsize -/
theorem yt254 {sc : xSc} {n : Nat × Nat} {m0 : wm} {c : Int} (hc : 0 ≤ c ∧ c ≤ 1000000)  (hG : zB c m0) : wX (zK sc) 254 [.inr (.inr (.inl (some (34, 0))))] n m0 (wr (fun vv n1 m1 => vv = none ∧ n = n1 ∧ zB c m1 ∧ zfr (fun k i j => (k = 54)) m0 m1 ∧ (zUs m0 m1 ∧ zUf m0 m1 56))) := by
  refine wX_of (N := zM254) rfl (Nat.le_of_ble_eq_true rfl) ?_
  show wW (zK sc) zM254 0 [(0, .inr (.inr (.inl (some (34, 0)))))] [] n m0 _
  have hF : zfr (fun k i j => (k = 54)) m0 m0 := zfr_rf
  refine ww_go 2 (pc' := 2) (L' := [(1, .inl 0), (0, .inr (.inr (.inl (some (34, 0)))))]) (st' := []) (m' := m0) (o := none) rfl trivial ?_
  refine ww_sub (L := [(0, .inr (.inr (.inl (some (34, 0))))), (1, .inl 0)]) ⟨rfl, rfl, trivial⟩ rfl rfl ?_
  exact (yt254_l2 hc hG _).1 0 m0 rfl (zB_mono hG (by omega)) hF (by omega) (by exact zUs_rf) (by exact zUf_0)
set_option maxRecDepth 8000 in
theorem yt201_l4 {sc : xSc} {n : Nat × Nat} {m : wm} {c : Int} (hc : 0 ≤ c ∧ c ≤ 1000000) (f : Int) (hG : zB c m) (h0 : 0 ≤ f ∧ f ≤ 7) : ∀ (d : Nat), ∀ (s : Int) (k : Int), (24 - k).toNat = d → (0 ≤ s ∧ s ≤ 1 ∧ 0 ≤ k ∧ k ≤ m.1 34 0 30) → (s = 1 → zHit m (m.1 34 0 30) (7 * f) (7 * f + 6)) → (s = 0 → ∀ r : Nat, (r : Int) < k → ¬ (7 * f ≤ m.1 58 0 r ∧ m.1 58 0 r ≤ 7 * f + 6)) →  wW (zK sc) zM201 4 [(0, .inr (.inr (.inl (some (34, 0))))), (1, .inl f), (2, .inl s), (3, .inl k)] [] n m (wr (fun vv n1 m1 => ∃ r : Int, vv = some (.inl r) ∧ n = n1 ∧ m = m1 ∧ ((r = 1 ∧ zHit m (m.1 34 0 30) (7 * f) (7 * f + 6)) ∨ (r = 0 ∧ ∀ r : Nat, (r : Int) < m.1 34 0 30 → ¬ (7 * f ≤ m.1 58 0 r ∧ m.1 58 0 r ≤ 7 * f + 6))))) := by
  intro d
  induction d using Nat.strongRecOn with
  | ind d ih =>
    intro s k hd hi he hn
    have br : 0 ≤ m.1 34 0 30 ∧ m.1 34 0 30 ≤ 24 := hG.1 34 _ rfl _ _
    have b1 : 0 ≤ m.1 34 0 30 ∧ m.1 34 0 30 ≤ 24 := hG.1 34 _ rfl _ _
    refine ww_go 3 (pc' := 9) (L' := [(0, .inr (.inr (.inl (some (34, 0))))), (1, .inl f), (2, .inl s), (3, .inl k)]) (st' := [.inl (m.1 34 0 30), .inl k]) (m' := m) (o := some ((0 < 1))) rfl (show (0 < 1) from by omega) ?_
    refine ww_ic (t := 41) rfl rfl (by omega) (fun (h2 : m.1 34 0 30 ≤ k) => ?_) (fun (h2 : ¬ (m.1 34 0 30 ≤ k)) => ?_)
    · show wW (zK sc) zM201 41 [(0, .inr (.inr (.inl (some (34, 0))))), (1, .inl f), (2, .inl s), (3, .inl k)] [] _ _ _
      refine ww_go 1 (pc' := 42) (L' := [(0, .inr (.inr (.inl (some (34, 0))))), (1, .inl f), (2, .inl s), (3, .inl k)]) (st' := [.inl s]) (m' := m) (o := none) rfl trivial ?_
      exact ww_rB rfl rfl (by omega) ⟨_, rfl, rfl, rfl, by exact (show s = 0 ∨ s = 1 from by omega).elim (fun z => Or.inr ⟨z, fun r hr => hn z r (by omega)⟩) (fun z => Or.inl ⟨z, he z⟩)⟩
    · show wW (zK sc) zM201 12 [(0, .inr (.inr (.inl (some (34, 0))))), (1, .inl f), (2, .inl s), (3, .inl k)] [] _ _ _
      refine ww_go 1 (pc' := 13) (L' := [(0, .inr (.inr (.inl (some (34, 0))))), (1, .inl f), (2, .inl s), (3, .inl k)]) (st' := [.inl s]) (m' := m) (o := none) rfl trivial ?_
      refine ww_if (t := 29) rfl rfl (by omega) (fun (h3 : s ≠ 0) => ?_) (fun (h3 : ¬ (s ≠ 0)) => ?_)
      · show wW (zK sc) zM201 29 [(0, .inr (.inr (.inl (some (34, 0))))), (1, .inl f), (2, .inl s), (3, .inl k)] [] _ _ _
        refine ww_go 5 (pc' := 4) (L' := [(3, .inl (k + 1)), (2, .inl 1), (0, .inr (.inr (.inl (some (34, 0))))), (1, .inl f)]) (st' := []) (m' := m) (o := none) rfl trivial ?_
        refine ww_sub (L := [(0, .inr (.inr (.inl (some (34, 0))))), (1, .inl f), (2, .inl 1), (3, .inl (k + 1))]) ⟨rfl, rfl, rfl, rfl, trivial⟩ rfl rfl ?_
        exact (ih _ (by omega)) 1 (k + 1) rfl (by omega) (by first | (intro z; omega) | exact fun _ => he (by omega) | exact fun _ => ⟨k, by omega, by omega, by omega, by omega⟩) (by first | (intro z; omega) | exact fun _ r hr => absurd hr (by omega) | exact fun _ r hr => (Decidable.em ((r : Int) < k)).elim (fun h9 => hn (by omega) r h9) (fun h9 => (by rw [show r = k.toNat from by omega]; omega)))
      · show wW (zK sc) zM201 16 [(0, .inr (.inr (.inl (some (34, 0))))), (1, .inl f), (2, .inl s), (3, .inl k)] [] _ _ _
        have b4 : 0 ≤ m.1 58 0 k.toNat ∧ m.1 58 0 k.toNat ≤ 55 := hG.1 58 _ rfl _ _
        have t5 : (0 ≤ (m.1 58 0 k.toNat) → (m.1 58 0 k.toNat).tdiv 7 = (m.1 58 0 k.toNat) / 7) ∧ ((m.1 58 0 k.toNat) < 0 → (m.1 58 0 k.toNat).tdiv 7 = -((-((m.1 58 0 k.toNat))) / 7)) := ⟨fun z => Int.tdiv_eq_ediv_of_nonneg z, fun z => wtdiv_neg z⟩
        refine ww_go 7 (pc' := 26) (L' := [(0, .inr (.inr (.inl (some (34, 0))))), (1, .inl f), (2, .inl s), (3, .inl k)]) (st' := [.inl f, .inl ((m.1 58 0 k.toNat).tdiv 7)]) (m' := m) (o := some ((0 < 1) ∧ (0 < 1 ∧ 0 ≤ k ∧ k < ((24 : Nat) : Int)) ∧ (-2147483648 ≤ m.1 58 0 k.toNat ∧ m.1 58 0 k.toNat ≤ 2147483647 ∧ 0 < (7 : Int) ∧ (7 : Int) ≤ 2147483647))) rfl (show (0 < 1) ∧ (0 < 1 ∧ 0 ≤ k ∧ k < ((24 : Nat) : Int)) ∧ (-2147483648 ≤ m.1 58 0 k.toNat ∧ m.1 58 0 k.toNat ≤ 2147483647 ∧ 0 < (7 : Int) ∧ (7 : Int) ≤ 2147483647) from by omega) ?_
        refine ww_ic (t := 33) rfl rfl (by omega) (fun (h6 : (m.1 58 0 k.toNat).tdiv 7 ≠ f) => ?_) (fun (h6 : ¬ ((m.1 58 0 k.toNat).tdiv 7 ≠ f)) => ?_)
        · show wW (zK sc) zM201 33 [(0, .inr (.inr (.inl (some (34, 0))))), (1, .inl f), (2, .inl s), (3, .inl k)] [] _ _ _
          refine ww_go 4 (pc' := 4) (L' := [(3, .inl (k + 1)), (2, .inl 0), (0, .inr (.inr (.inl (some (34, 0))))), (1, .inl f)]) (st' := []) (m' := m) (o := none) rfl trivial ?_
          refine ww_sub (L := [(0, .inr (.inr (.inl (some (34, 0))))), (1, .inl f), (2, .inl 0), (3, .inl (k + 1))]) ⟨rfl, rfl, rfl, rfl, trivial⟩ rfl rfl ?_
          exact (ih _ (by omega)) 0 (k + 1) rfl (by omega) (by first | (intro z; omega) | exact fun _ => he (by omega) | exact fun _ => ⟨k, by omega, by omega, by omega, by omega⟩) (by first | (intro z; omega) | exact fun _ r hr => absurd hr (by omega) | exact fun _ r hr => (Decidable.em ((r : Int) < k)).elim (fun h9 => hn (by omega) r h9) (fun h9 => (by rw [show r = k.toNat from by omega]; omega)))
        · show wW (zK sc) zM201 29 [(0, .inr (.inr (.inl (some (34, 0))))), (1, .inl f), (2, .inl s), (3, .inl k)] [] _ _ _
          refine ww_go 5 (pc' := 4) (L' := [(3, .inl (k + 1)), (2, .inl 1), (0, .inr (.inr (.inl (some (34, 0))))), (1, .inl f)]) (st' := []) (m' := m) (o := none) rfl trivial ?_
          refine ww_sub (L := [(0, .inr (.inr (.inl (some (34, 0))))), (1, .inl f), (2, .inl 1), (3, .inl (k + 1))]) ⟨rfl, rfl, rfl, rfl, trivial⟩ rfl rfl ?_
          exact (ih _ (by omega)) 1 (k + 1) rfl (by omega) (by first | (intro z; omega) | exact fun _ => he (by omega) | exact fun _ => ⟨k, by omega, by omega, by omega, by omega⟩) (by first | (intro z; omega) | exact fun _ r hr => absurd hr (by omega) | exact fun _ r hr => (Decidable.em ((r : Int) < k)).elim (fun h9 => hn (by omega) r h9) (fun h9 => (by rw [show r = k.toNat from by omega]; omega)))
set_option maxRecDepth 8000 in
/-- Mo.hasRows -/
theorem yt201 {sc : xSc} {n : Nat × Nat} {m : wm} {c : Int} (hc : 0 ≤ c ∧ c ≤ 1000000) (f : Int) (hG : zB c m) (h0 : 0 ≤ f ∧ f ≤ 7) : wX (zK sc) 201 [.inr (.inr (.inl (some (34, 0)))), .inl f] n m (wr (fun vv n1 m1 => ∃ r : Int, vv = some (.inl r) ∧ n = n1 ∧ m = m1 ∧ ((r = 1 ∧ zHit m (m.1 34 0 30) (7 * f) (7 * f + 6)) ∨ (r = 0 ∧ ∀ r : Nat, (r : Int) < m.1 34 0 30 → ¬ (7 * f ≤ m.1 58 0 r ∧ m.1 58 0 r ≤ 7 * f + 6))))) := by
  refine wX_of (N := zM201) rfl (Nat.le_of_ble_eq_true rfl) ?_
  show wW (zK sc) zM201 0 [(0, .inr (.inr (.inl (some (34, 0))))), (1, .inl f)] [] n m _
  have br : 0 ≤ m.1 34 0 30 ∧ m.1 34 0 30 ≤ 24 := hG.1 34 _ rfl _ _
  refine ww_go 4 (pc' := 4) (L' := [(3, .inl 0), (2, .inl 0), (0, .inr (.inr (.inl (some (34, 0))))), (1, .inl f)]) (st' := []) (m' := m) (o := none) rfl trivial ?_
  refine ww_sub (L := [(0, .inr (.inr (.inl (some (34, 0))))), (1, .inl f), (2, .inl 0), (3, .inl 0)]) ⟨rfl, rfl, rfl, rfl, trivial⟩ rfl rfl ?_
  exact (yt201_l4 hc f hG h0 _) 0 0 rfl (by omega) (by first | (intro z; omega) | exact fun _ => he (by omega) | exact fun _ => ⟨k, by omega, by omega, by omega, by omega⟩) (by first | (intro z; omega) | exact fun _ r hr => absurd hr (by omega) | exact fun _ r hr => (Decidable.em ((r : Int) < k)).elim (fun h9 => hn (by omega) r h9) (fun h9 => (by rw [show r = k.toNat from by omega]; omega)))
set_option maxRecDepth 8000 in
/-- Version.number -/
theorem yt155 {sc : xSc} {n : Nat × Nat} {m : wm} {c : Int} (hc : 0 ≤ c ∧ c ≤ 1000000) (t : Nat) (hG : zB c m) (h0 : t < 10) : wX (zK sc) 155 [.inr (.inr (.inl (some (26, t))))] n m (wr (fun vv n1 m1 => ∃ r : Int, vv = some (.inl r) ∧ n = n1 ∧ m = m1 ∧ (r = m.1 26 t 7 ∧ 0 ≤ r ∧ r ≤ 65535))) := by
  refine wX_of (N := zM155) rfl (Nat.le_of_ble_eq_true rfl) ?_
  show wW (zK sc) zM155 0 [(0, .inr (.inr (.inl (some (26, t)))))] [] n m _
  have b1 : 0 ≤ m.1 26 t 7 ∧ m.1 26 t 7 ≤ 65535 := hG.1 26 _ rfl _ _
  refine ww_go 2 (pc' := 4) (L' := [(0, .inr (.inr (.inl (some (26, t)))))]) (st' := [.inl (m.1 26 t 7)]) (m' := m) (o := some ((t < 10))) rfl (show (t < 10) from by omega) ?_
  exact ww_rI rfl rfl ⟨_, rfl, rfl, rfl, by exact ⟨rfl, by omega, by omega⟩⟩
set_option maxRecDepth 8000 in
/-- Version.state -/
theorem yt159 {sc : xSc} {n : Nat × Nat} {m : wm} {c : Int} (hc : 0 ≤ c ∧ c ≤ 1000000) (t : Nat) (hG : zB c m) (h0 : t < 10) : wX (zK sc) 159 [.inr (.inr (.inl (some (26, t))))] n m (wr (fun vv n1 m1 => ∃ r : Int, vv = some (.inl r) ∧ n = n1 ∧ m = m1 ∧ (r = m.1 26 t 8 ∧ 0 ≤ r ∧ r ≤ 5))) := by
  refine wX_of (N := zM159) rfl (Nat.le_of_ble_eq_true rfl) ?_
  show wW (zK sc) zM159 0 [(0, .inr (.inr (.inl (some (26, t)))))] [] n m _
  have b1 : 0 ≤ m.1 26 t 8 ∧ m.1 26 t 8 ≤ 5 := hG.1 26 _ rfl _ _
  refine ww_go 2 (pc' := 4) (L' := [(0, .inr (.inr (.inl (some (26, t)))))]) (st' := [.inl (m.1 26 t 8)]) (m' := m) (o := some ((t < 10))) rfl (show (t < 10) from by omega) ?_
  exact ww_rI rfl rfl ⟨_, rfl, rfl, rfl, by exact ⟨rfl, by omega, by omega⟩⟩
set_option maxRecDepth 8000 in
/-- Version.become -/
theorem yt137 {sc : xSc} {n : Nat × Nat} {m0 : wm} {c : Int} (hc : 0 ≤ c ∧ c ≤ 1000000) (x : Int) (t : Nat) (hG : zB c m0) (h0 : t < 10 ∧ 0 ≤ x ∧ x ≤ 5) : wX (zK sc) 137 [.inr (.inr (.inl (some (26, t)))), .inl x] n m0 (wr (fun vv n1 m1 => vv = none ∧ n = n1 ∧ zB c m1 ∧ zfr (fun k i j => (k = 26 ∧ i = t ∧ j = 8)) m0 m1 ∧ True)) := by
  refine wX_of (N := zM137) rfl (Nat.le_of_ble_eq_true rfl) ?_
  show wW (zK sc) zM137 0 [(0, .inr (.inr (.inl (some (26, t))))), (1, .inl x)] [] n m0 _
  have hF : zfr (fun k i j => (k = 26 ∧ i = t ∧ j = 8)) m0 m0 := zfr_rf
  refine ww_go 3 (pc' := 5) (L' := [(0, .inr (.inr (.inl (some (26, t))))), (1, .inl x)]) (st' := []) (m' := wuI m0 26 t 8 x) (o := some ((t < 10))) rfl (show (t < 10) from by omega) ?_
  obtain ⟨m1, hm1⟩ : ∃ zq9 : wm, zq9 = wuI m0 26 t 8 x := ⟨_, rfl⟩
  rw [← hm1]
  have hGm1 : zB c m1 := by rw [hm1]; exact zB_wI rfl (show 0 ≤ x ∧ x ≤ 5 from by omega) hG
  have hFm1 : zfr (fun k i j => (k = 26 ∧ i = t ∧ j = 8)) m0 m1 := by rw [hm1]; exact zfr_wI hF (show (26 = 26 ∧ t = t ∧ 8 = 8) from (show (26 = 26 ∧ t = t ∧ 8 = 8) from by omega))
  have s2 : m1.1 26 t 8 = x := by rw [hm1]; exact wuI_self
  exact ww_rV rfl rfl ⟨rfl, rfl, zB_mono hGm1 (by omega), hFm1, by trivial⟩
set_option maxRecDepth 8000 in
/-- Version.files -/
theorem yt141 {sc : xSc} {n : Nat × Nat} {m : wm} {c : Int} (hc : 0 ≤ c ∧ c ≤ 1000000) (t : Nat) (hG : zB c m) (h0 : t < 10) : wX (zK sc) 141 [.inr (.inr (.inl (some (26, t))))] n m (wr (fun vv n1 m1 => ∃ r : Int, vv = some (.inl r) ∧ n = n1 ∧ m = m1 ∧ (r = m.1 26 t 9 ∧ 0 ≤ r ∧ r ≤ 6))) := by
  refine wX_of (N := zM141) rfl (Nat.le_of_ble_eq_true rfl) ?_
  show wW (zK sc) zM141 0 [(0, .inr (.inr (.inl (some (26, t)))))] [] n m _
  have b1 : 0 ≤ m.1 26 t 9 ∧ m.1 26 t 9 ≤ 6 := hG.1 26 _ rfl _ _
  refine ww_go 2 (pc' := 4) (L' := [(0, .inr (.inr (.inl (some (26, t)))))]) (st' := [.inl (m.1 26 t 9)]) (m' := m) (o := some ((t < 10))) rfl (show (t < 10) from by omega) ?_
  exact ww_rI rfl rfl ⟨_, rfl, rfl, rfl, by exact ⟨rfl, by omega, by omega⟩⟩
set_option maxRecDepth 8000 in
/-- Version.isGood -/
theorem yt149 {sc : xSc} {n : Nat × Nat} {m : wm} {c : Int} (hc : 0 ≤ c ∧ c ≤ 1000000) (t : Nat) (hG : zB c m) (h0 : t < 10) : wX (zK sc) 149 [.inr (.inr (.inl (some (26, t))))] n m (wr (fun vv n1 m1 => ∃ r : Int, vv = some (.inl r) ∧ n = n1 ∧ m = m1 ∧ (r = m.1 26 t 10 ∧ 0 ≤ r ∧ r ≤ 1))) := by
  refine wX_of (N := zM149) rfl (Nat.le_of_ble_eq_true rfl) ?_
  show wW (zK sc) zM149 0 [(0, .inr (.inr (.inl (some (26, t)))))] [] n m _
  have b1 : 0 ≤ m.1 26 t 10 ∧ m.1 26 t 10 ≤ 1 := hG.1 26 _ rfl _ _
  refine ww_go 2 (pc' := 4) (L' := [(0, .inr (.inr (.inl (some (26, t)))))]) (st' := [.inl (m.1 26 t 10)]) (m' := m) (o := some ((t < 10))) rfl (show (t < 10) from by omega) ?_
  exact ww_rB rfl rfl (by omega) ⟨_, rfl, rfl, rfl, by exact ⟨rfl, by omega, by omega⟩⟩
set_option maxRecDepth 8000 in
/-- Version.holds -/
theorem yt146 {sc : xSc} {n : Nat × Nat} {m : wm} {c : Int} (hc : 0 ≤ c ∧ c ≤ 1000000) (x : Int) (t : Nat) (hG : zB c m) (h0 : t < 10 ∧ 0 ≤ x ∧ x ≤ 6) : wX (zK sc) 146 [.inr (.inr (.inl (some (26, t)))), .inl x] n m (wr (fun vv n1 m1 => ∃ r : Int, vv = some (.inl r) ∧ n = n1 ∧ m = m1 ∧ (r = m.1 29 t x.toNat ∧ 0 ≤ r ∧ r ≤ 1))) := by
  refine wX_of (N := zM146) rfl (Nat.le_of_ble_eq_true rfl) ?_
  show wW (zK sc) zM146 0 [(0, .inr (.inr (.inl (some (26, t))))), (1, .inl x)] [] n m _
  have b1 : 0 ≤ m.1 29 t x.toNat ∧ m.1 29 t x.toNat ≤ 1 := hG.1 29 _ rfl _ _
  refine ww_go 4 (pc' := 6) (L' := [(0, .inr (.inr (.inl (some (26, t))))), (1, .inl x)]) (st' := [.inl (m.1 29 t x.toNat)]) (m' := m) (o := some ((t < 10) ∧ (t < 10 ∧ 0 ≤ x ∧ x < ((7 : Nat) : Int)))) rfl (show (t < 10) ∧ (t < 10 ∧ 0 ≤ x ∧ x < ((7 : Nat) : Int)) from by omega) ?_
  exact ww_rB rfl rfl (by omega) ⟨_, rfl, rfl, rfl, by exact ⟨rfl, by omega, by omega⟩⟩
set_option maxRecDepth 8000 in
/-- Version.item -/
theorem yt152 {sc : xSc} {n : Nat × Nat} {m : wm} {c : Int} (hc : 0 ≤ c ∧ c ≤ 1000000) (x : Int) (t : Nat) (hG : zB c m) (h0 : t < 10 ∧ 0 ≤ x ∧ x ≤ 6) : wX (zK sc) 152 [.inr (.inr (.inl (some (26, t)))), .inl x] n m (wr (fun vv n1 m1 => ∃ r : Nat, vv = some (.inr (.inr (.inl (some (1, r))))) ∧ n = n1 ∧ m = m1 ∧ (r = 101 + 7 * t + x.toNat))) := by
  refine wX_of (N := zM152) rfl (Nat.le_of_ble_eq_true rfl) ?_
  show wW (zK sc) zM152 0 [(0, .inr (.inr (.inl (some (26, t))))), (1, .inl x)] [] n m _
  refine ww_go 4 (pc' := 6) (L' := [(0, .inr (.inr (.inl (some (26, t))))), (1, .inl x)]) (st' := [.inr (.inr (.inl (some (1, 101 + 7 * t + x.toNat))))]) (m' := m) (o := some ((t < 10) ∧ (t < 10 ∧ 0 ≤ x ∧ x < ((7 : Nat) : Int)))) rfl (show (t < 10) ∧ (t < 10 ∧ 0 ≤ x ∧ x < ((7 : Nat) : Int)) from by omega) ?_
  exact ww_rA rfl rfl ⟨_, rfl, rfl, rfl, by rfl⟩
set_option maxRecDepth 8000 in
theorem yt139_l18 {sc : xSc} {n : Nat × Nat} {m0 : wm} {c : Int} (hc : 0 ≤ c ∧ c ≤ 1000000) (x : Int) (t : Nat) (hG : zB c m0) (h0 : t < 10 ∧ 0 ≤ x ∧ x ≤ 6) : ∀ (d : Nat), ∀ (y : Int) (m : wm), (2 - y).toNat = d → zB c m → zfr (fun k i j => (k = 1 ∧ i = 101 + 7 * t + x.toNat ∧ j = 1) ∨ (k = 29 ∧ i = t ∧ j = x.toNat) ∨ (k = 28 ∧ i = t ∧ 2 * x.toNat ≤ j ∧ j ≤ 2 * x.toNat + 1) ∨ (k = 26 ∧ i = t ∧ 9 ≤ j ∧ j ≤ 10 ∧ x = 0)) m0 m → (0 ≤ y ∧ y ≤ 2) → (m.1 1 (101 + 7 * t + x.toNat) 1 = 0 ∧ m.1 29 t x.toNat = 0) → ((1 ≤ y → m.1 28 t (2 * x.toNat) = 0) ∧ (2 ≤ y → m.1 28 t (2 * x.toNat + 1) = 0)) →  wW (zK sc) zM139 18 [(0, .inr (.inr (.inl (some (26, t))))), (1, .inl x), (2, .inl y)] [] n m (wr (fun vv n1 m1 => vv = none ∧ n = n1 ∧ zB c m1 ∧ zfr (fun k i j => (k = 1 ∧ i = 101 + 7 * t + x.toNat ∧ j = 1) ∨ (k = 29 ∧ i = t ∧ j = x.toNat) ∨ (k = 28 ∧ i = t ∧ 2 * x.toNat ≤ j ∧ j ≤ 2 * x.toNat + 1) ∨ (k = 26 ∧ i = t ∧ 9 ≤ j ∧ j ≤ 10 ∧ x = 0)) m0 m1 ∧ (zCl m1 t x.toNat ∧ (x = 0 → m1.1 26 t 9 = 0 ∧ m1.1 26 t 10 = 0)))) := by
  intro d
  induction d using Nat.strongRecOn with
  | ind d ih =>
    intro y m hd hGm hFm hi hm hs
    refine ww_go 2 (pc' := 20) (L' := [(0, .inr (.inr (.inl (some (26, t))))), (1, .inl x), (2, .inl y)]) (st' := [.inl 2, .inl y]) (m' := m) (o := none) rfl trivial ?_
    refine ww_ic (t := 40) rfl rfl (by omega) (fun (h1 : 2 ≤ y) => ?_) (fun (h1 : ¬ (2 ≤ y)) => ?_)
    · show wW (zK sc) zM139 40 [(0, .inr (.inr (.inl (some (26, t))))), (1, .inl x), (2, .inl y)] [] _ _ _
      refine ww_go 1 (pc' := 41) (L' := [(0, .inr (.inr (.inl (some (26, t))))), (1, .inl x), (2, .inl y)]) (st' := [.inl x]) (m' := m) (o := none) rfl trivial ?_
      refine ww_if (t := 54) rfl rfl (by omega) (fun (h2 : x ≠ 0) => ?_) (fun (h2 : ¬ (x ≠ 0)) => ?_)
      · show wW (zK sc) zM139 54 [(0, .inr (.inr (.inl (some (26, t))))), (1, .inl x), (2, .inl y)] [] _ _ _
        exact ww_rV rfl rfl ⟨rfl, rfl, zB_mono hGm (by omega), hFm, ⟨⟨by omega, by omega, (by exact hs.1 (by omega)), (by exact hs.2 (by omega))⟩, by omega⟩⟩
      · show wW (zK sc) zM139 44 [(0, .inr (.inr (.inl (some (26, t))))), (1, .inl x), (2, .inl y)] [] _ _ _
        refine ww_go 3 (pc' := 49) (L' := [(0, .inr (.inr (.inl (some (26, t))))), (1, .inl x), (2, .inl y)]) (st' := []) (m' := wuI m 26 t 10 0) (o := some ((t < 10 ∧ 0 ≤ (0 : Int) ∧ (0 : Int) ≤ 1))) rfl (show (t < 10 ∧ 0 ≤ (0 : Int) ∧ (0 : Int) ≤ 1) from by omega) ?_
        obtain ⟨m3, hm3⟩ : ∃ zq9 : wm, zq9 = wuI m 26 t 10 0 := ⟨_, rfl⟩
        rw [← hm3]
        have hGm3 : zB c m3 := by rw [hm3]; exact zB_wI rfl (show 0 ≤ (0 : Int) ∧ (0 : Int) ≤ 1 from by omega) hGm
        have hFm3 : zfr (fun k i j => (k = 1 ∧ i = 101 + 7 * t + x.toNat ∧ j = 1) ∨ (k = 29 ∧ i = t ∧ j = x.toNat) ∨ (k = 28 ∧ i = t ∧ 2 * x.toNat ≤ j ∧ j ≤ 2 * x.toNat + 1) ∨ (k = 26 ∧ i = t ∧ 9 ≤ j ∧ j ≤ 10 ∧ x = 0)) m0 m3 := by rw [hm3]; exact zfr_wI hFm (show (26 = 1 ∧ t = 101 + 7 * t + x.toNat ∧ 10 = 1) ∨ (26 = 29 ∧ t = t ∧ 10 = x.toNat) ∨ (26 = 28 ∧ t = t ∧ 2 * x.toNat ≤ 10 ∧ 10 ≤ 2 * x.toNat + 1) ∨ (26 = 26 ∧ t = t ∧ 9 ≤ 10 ∧ 10 ≤ 10 ∧ x = 0) from Or.inr (Or.inr (Or.inr ((show (26 = 26 ∧ t = t ∧ 9 ≤ 10 ∧ 10 ≤ 10 ∧ x = 0) from by omega)))))
        have s4 : m3.1 26 t 10 = (0 : Int) := by rw [hm3]; exact wuI_self
        have w5 : m3.1 1 (101 + 7 * t + x.toNat) 1 = m.1 1 (101 + 7 * t + x.toNat) 1 := by rw [hm3]; rfl
        have w6 : m3.1 29 t x.toNat = m.1 29 t x.toNat := by rw [hm3]; rfl
        have w7 : m3.1 26 t 9 = m.1 26 t 9 := by rw [hm3]; exact wuI_nj (by omega)
        refine ww_go 3 (pc' := 54) (L' := [(0, .inr (.inr (.inl (some (26, t))))), (1, .inl x), (2, .inl y)]) (st' := []) (m' := wuI m3 26 t 9 0) (o := some ((t < 10))) rfl (show (t < 10) from by omega) ?_
        obtain ⟨m8, hm8⟩ : ∃ zq9 : wm, zq9 = wuI m3 26 t 9 0 := ⟨_, rfl⟩
        rw [← hm8]
        have hGm8 : zB c m8 := by rw [hm8]; exact zB_wI rfl (show 0 ≤ (0 : Int) ∧ (0 : Int) ≤ 6 from by omega) hGm3
        have hFm8 : zfr (fun k i j => (k = 1 ∧ i = 101 + 7 * t + x.toNat ∧ j = 1) ∨ (k = 29 ∧ i = t ∧ j = x.toNat) ∨ (k = 28 ∧ i = t ∧ 2 * x.toNat ≤ j ∧ j ≤ 2 * x.toNat + 1) ∨ (k = 26 ∧ i = t ∧ 9 ≤ j ∧ j ≤ 10 ∧ x = 0)) m0 m8 := by rw [hm8]; exact zfr_wI hFm3 (show (26 = 1 ∧ t = 101 + 7 * t + x.toNat ∧ 9 = 1) ∨ (26 = 29 ∧ t = t ∧ 9 = x.toNat) ∨ (26 = 28 ∧ t = t ∧ 2 * x.toNat ≤ 9 ∧ 9 ≤ 2 * x.toNat + 1) ∨ (26 = 26 ∧ t = t ∧ 9 ≤ 9 ∧ 9 ≤ 10 ∧ x = 0) from Or.inr (Or.inr (Or.inr ((show (26 = 26 ∧ t = t ∧ 9 ≤ 9 ∧ 9 ≤ 10 ∧ x = 0) from by omega)))))
        have s9 : m8.1 26 t 9 = (0 : Int) := by rw [hm8]; exact wuI_self
        have w10 : m8.1 1 (101 + 7 * t + x.toNat) 1 = m3.1 1 (101 + 7 * t + x.toNat) 1 := by rw [hm8]; rfl
        have w11 : m8.1 29 t x.toNat = m3.1 29 t x.toNat := by rw [hm8]; rfl
        have w12 : m8.1 26 t 10 = m3.1 26 t 10 := by rw [hm8]; exact wuI_nj (by omega)
        exact ww_rV rfl rfl ⟨rfl, rfl, zB_mono hGm8 (by omega), hFm8, ⟨⟨by omega, by omega, (by rw [hm8, wuI_nj (by omega)]; rw [hm3, wuI_nj (by omega)]; exact hs.1 (by omega)), (by rw [hm8, wuI_nj (by omega)]; rw [hm3, wuI_nj (by omega)]; exact hs.2 (by omega))⟩, by omega⟩⟩
    · show wW (zK sc) zM139 23 [(0, .inr (.inr (.inl (some (26, t))))), (1, .inl x), (2, .inl y)] [] _ _ _
      refine ww_go 9 (pc' := 34) (L' := [(0, .inr (.inr (.inl (some (26, t))))), (1, .inl x), (2, .inl y)]) (st' := []) (m' := wuI m 28 t (((x * 2) + y).toNat) 0) (o := some ((t < 10) ∧ (t < 10 ∧ 0 ≤ (x * 2) + y ∧ (x * 2) + y < ((14 : Nat) : Int) ∧ 0 ≤ (0 : Int) ∧ (0 : Int) ≤ 1))) rfl (show (t < 10) ∧ (t < 10 ∧ 0 ≤ (x * 2) + y ∧ (x * 2) + y < ((14 : Nat) : Int) ∧ 0 ≤ (0 : Int) ∧ (0 : Int) ≤ 1) from by omega) ?_
      obtain ⟨m13, hm13⟩ : ∃ zq9 : wm, zq9 = wuI m 28 t (((x * 2) + y).toNat) 0 := ⟨_, rfl⟩
      rw [← hm13]
      have hGm13 : zB c m13 := by rw [hm13]; exact zB_wI rfl (show 0 ≤ (0 : Int) ∧ (0 : Int) ≤ 1 from by omega) hGm
      have hFm13 : zfr (fun k i j => (k = 1 ∧ i = 101 + 7 * t + x.toNat ∧ j = 1) ∨ (k = 29 ∧ i = t ∧ j = x.toNat) ∨ (k = 28 ∧ i = t ∧ 2 * x.toNat ≤ j ∧ j ≤ 2 * x.toNat + 1) ∨ (k = 26 ∧ i = t ∧ 9 ≤ j ∧ j ≤ 10 ∧ x = 0)) m0 m13 := by rw [hm13]; exact zfr_wI hFm (show (28 = 1 ∧ t = 101 + 7 * t + x.toNat ∧ (((x * 2) + y).toNat) = 1) ∨ (28 = 29 ∧ t = t ∧ (((x * 2) + y).toNat) = x.toNat) ∨ (28 = 28 ∧ t = t ∧ 2 * x.toNat ≤ (((x * 2) + y).toNat) ∧ (((x * 2) + y).toNat) ≤ 2 * x.toNat + 1) ∨ (28 = 26 ∧ t = t ∧ 9 ≤ (((x * 2) + y).toNat) ∧ (((x * 2) + y).toNat) ≤ 10 ∧ x = 0) from Or.inr (Or.inr (Or.inl ((show (28 = 28 ∧ t = t ∧ 2 * x.toNat ≤ (((x * 2) + y).toNat) ∧ (((x * 2) + y).toNat) ≤ 2 * x.toNat + 1) from by omega)))))
      have s14 : m13.1 28 t (((x * 2) + y).toNat) = (0 : Int) := by rw [hm13]; exact wuI_self
      have w15 : m13.1 1 (101 + 7 * t + x.toNat) 1 = m.1 1 (101 + 7 * t + x.toNat) 1 := by rw [hm13]; rfl
      have w16 : m13.1 29 t x.toNat = m.1 29 t x.toNat := by rw [hm13]; rfl
      have w17 : m13.1 26 t 9 = m.1 26 t 9 := by rw [hm13]; rfl
      have w18 : m13.1 26 t 10 = m.1 26 t 10 := by rw [hm13]; rfl
      refine ww_go 2 (pc' := 18) (L' := [(2, .inl (y + 1)), (0, .inr (.inr (.inl (some (26, t))))), (1, .inl x)]) (st' := []) (m' := m13) (o := none) rfl trivial ?_
      refine ww_sub (L := [(0, .inr (.inr (.inl (some (26, t))))), (1, .inl x), (2, .inl (y + 1))]) ⟨rfl, rfl, rfl, trivial⟩ rfl rfl ?_
      exact (ih _ (by omega)) (y + 1) m13 rfl (zB_mono hGm13 (by omega)) hFm13 (by omega) (by omega) (by exact ⟨fun _ => (Decidable.em (y = 0)).elim (fun z => (by rw [show 2 * x.toNat = (x * 2 + y).toNat from by omega]; omega)) (fun z => (by rw [hm13, wuI_nj (by omega)]; exact hs.1 (by omega))), fun _ => (by rw [show 2 * x.toNat + 1 = (x * 2 + y).toNat from by omega]; omega)⟩)
set_option maxRecDepth 8000 in
/-- Version.clearItem -/
theorem yt139 {sc : xSc} {n : Nat × Nat} {m0 : wm} {c : Int} (hc : 0 ≤ c ∧ c ≤ 1000000) (x : Int) (t : Nat) (hG : zB c m0) (h0 : t < 10 ∧ 0 ≤ x ∧ x ≤ 6) : wX (zK sc) 139 [.inr (.inr (.inl (some (26, t)))), .inl x] n m0 (wr (fun vv n1 m1 => vv = none ∧ n = n1 ∧ zB c m1 ∧ zfr (fun k i j => (k = 1 ∧ i = 101 + 7 * t + x.toNat ∧ j = 1) ∨ (k = 29 ∧ i = t ∧ j = x.toNat) ∨ (k = 28 ∧ i = t ∧ 2 * x.toNat ≤ j ∧ j ≤ 2 * x.toNat + 1) ∨ (k = 26 ∧ i = t ∧ 9 ≤ j ∧ j ≤ 10 ∧ x = 0)) m0 m1 ∧ (zCl m1 t x.toNat ∧ (x = 0 → m1.1 26 t 9 = 0 ∧ m1.1 26 t 10 = 0)))) := by
  refine wX_of (N := zM139) rfl (Nat.le_of_ble_eq_true rfl) ?_
  show wW (zK sc) zM139 0 [(0, .inr (.inr (.inl (some (26, t))))), (1, .inl x)] [] n m0 _
  have hF : zfr (fun k i j => (k = 1 ∧ i = 101 + 7 * t + x.toNat ∧ j = 1) ∨ (k = 29 ∧ i = t ∧ j = x.toNat) ∨ (k = 28 ∧ i = t ∧ 2 * x.toNat ≤ j ∧ j ≤ 2 * x.toNat + 1) ∨ (k = 26 ∧ i = t ∧ 9 ≤ j ∧ j ≤ 10 ∧ x = 0)) m0 m0 := zfr_rf
  refine ww_go 4 (pc' := 6) (L' := [(0, .inr (.inr (.inl (some (26, t))))), (1, .inl x)]) (st' := [.inr (.inr (.inl (some (1, 101 + 7 * t + x.toNat))))]) (m' := m0) (o := some ((t < 10) ∧ (t < 10 ∧ 0 ≤ x ∧ x < ((7 : Nat) : Int)))) rfl (show (t < 10) ∧ (t < 10 ∧ 0 ≤ x ∧ x < ((7 : Nat) : Int)) from by omega) ?_
  refine ww_call (vs := [.inr (.inr (.inl (some (1, 101 + 7 * t + x.toNat))))]) (r := []) (p := 101 + 7 * t + x.toNat < 171) rfl rfl rfl rfl (show 101 + 7 * t + x.toNat < 171 from by omega) (zs29 (c := c) (by omega) (101 + 7 * t + x.toNat) hG (by omega)) ?_
  rintro _ _ m3 ⟨rfl, rfl, hGm3, hEm3, hr2⟩
  have hFm3 : zfr (fun k i j => (k = 1 ∧ i = 101 + 7 * t + x.toNat ∧ j = 1) ∨ (k = 29 ∧ i = t ∧ j = x.toNat) ∨ (k = 28 ∧ i = t ∧ 2 * x.toNat ≤ j ∧ j ≤ 2 * x.toNat + 1) ∨ (k = 26 ∧ i = t ∧ 9 ≤ j ∧ j ≤ 10 ∧ x = 0)) m0 m3 := zfr_tr hF hEm3 (fun k i j z => (show (k = 1 ∧ i = 101 + 7 * t + x.toNat ∧ j = 1) ∨ (k = 29 ∧ i = t ∧ j = x.toNat) ∨ (k = 28 ∧ i = t ∧ 2 * x.toNat ≤ j ∧ j ≤ 2 * x.toNat + 1) ∨ (k = 26 ∧ i = t ∧ 9 ≤ j ∧ j ≤ 10 ∧ x = 0) from Or.inl ((show k = 1 ∧ i = 101 + 7 * t + x.toNat ∧ j = 1 from by omega))))
  have w4 : m3.1 29 t x.toNat = m0.1 29 t x.toNat := (hEm3 29 t x.toNat (show ¬ ((29 = 1 ∧ t = (101 + 7 * t + x.toNat) ∧ x.toNat = 1)) from by omega)).1
  have w5 : m3.1 26 t 9 = m0.1 26 t 9 := (hEm3 26 t 9 (show ¬ ((26 = 1 ∧ t = (101 + 7 * t + x.toNat) ∧ 9 = 1)) from by omega)).1
  have w6 : m3.1 26 t 10 = m0.1 26 t 10 := (hEm3 26 t 10 (show ¬ ((26 = 1 ∧ t = (101 + 7 * t + x.toNat) ∧ 10 = 1)) from by omega)).1
  show wW (zK sc) zM139 9 [(0, .inr (.inr (.inl (some (26, t))))), (1, .inl x)] [] _ _ _
  refine ww_go 5 (pc' := 16) (L' := [(0, .inr (.inr (.inl (some (26, t))))), (1, .inl x)]) (st' := []) (m' := wuI m3 29 t x.toNat 0) (o := some ((t < 10) ∧ (t < 10 ∧ 0 ≤ x ∧ x < ((7 : Nat) : Int) ∧ 0 ≤ (0 : Int) ∧ (0 : Int) ≤ 1))) rfl (show (t < 10) ∧ (t < 10 ∧ 0 ≤ x ∧ x < ((7 : Nat) : Int) ∧ 0 ≤ (0 : Int) ∧ (0 : Int) ≤ 1) from by omega) ?_
  obtain ⟨m7, hm7⟩ : ∃ zq9 : wm, zq9 = wuI m3 29 t x.toNat 0 := ⟨_, rfl⟩
  rw [← hm7]
  have hGm7 : zB c m7 := by rw [hm7]; exact zB_wI rfl (show 0 ≤ (0 : Int) ∧ (0 : Int) ≤ 1 from by omega) hGm3
  have hFm7 : zfr (fun k i j => (k = 1 ∧ i = 101 + 7 * t + x.toNat ∧ j = 1) ∨ (k = 29 ∧ i = t ∧ j = x.toNat) ∨ (k = 28 ∧ i = t ∧ 2 * x.toNat ≤ j ∧ j ≤ 2 * x.toNat + 1) ∨ (k = 26 ∧ i = t ∧ 9 ≤ j ∧ j ≤ 10 ∧ x = 0)) m0 m7 := by rw [hm7]; exact zfr_wI hFm3 (show (29 = 1 ∧ t = 101 + 7 * t + x.toNat ∧ x.toNat = 1) ∨ (29 = 29 ∧ t = t ∧ x.toNat = x.toNat) ∨ (29 = 28 ∧ t = t ∧ 2 * x.toNat ≤ x.toNat ∧ x.toNat ≤ 2 * x.toNat + 1) ∨ (29 = 26 ∧ t = t ∧ 9 ≤ x.toNat ∧ x.toNat ≤ 10 ∧ x = 0) from Or.inr (Or.inl ((show (29 = 29 ∧ t = t ∧ x.toNat = x.toNat) from by omega))))
  have s8 : m7.1 29 t x.toNat = (0 : Int) := by rw [hm7]; exact wuI_self
  have w9 : m7.1 1 (101 + 7 * t + x.toNat) 1 = m3.1 1 (101 + 7 * t + x.toNat) 1 := by rw [hm7]; rfl
  have w10 : m7.1 26 t 9 = m3.1 26 t 9 := by rw [hm7]; rfl
  have w11 : m7.1 26 t 10 = m3.1 26 t 10 := by rw [hm7]; rfl
  refine ww_go 2 (pc' := 18) (L' := [(2, .inl 0), (0, .inr (.inr (.inl (some (26, t))))), (1, .inl x)]) (st' := []) (m' := m7) (o := none) rfl trivial ?_
  refine ww_sub (L := [(0, .inr (.inr (.inl (some (26, t))))), (1, .inl x), (2, .inl 0)]) ⟨rfl, rfl, rfl, trivial⟩ rfl rfl ?_
  exact (yt139_l18 hc x t hG h0 _) 0 m7 rfl (zB_mono hGm7 (by omega)) hFm7 (by omega) (by omega) (by exact ⟨fun z => absurd z (by omega), fun z => absurd z (by omega)⟩)
set_option maxRecDepth 8000 in
theorem yt138_l12 {sc : xSc} {n : Nat × Nat} {m0 : wm} {c : Int} (hc : 0 ≤ c ∧ c ≤ 1000000) (x : Int) (t : Nat) (hG : zB c m0) (h0 : t < 10 ∧ 0 ≤ x ∧ x ≤ 65535) : ∀ (d : Nat), ∀ (y : Int) (m : wm), (7 - y).toNat = d → zB c m → zfr (fun k i j => (k = 1 ∧ 101 + 7 * t ≤ i ∧ i < 108 + 7 * t ∧ j = 1) ∨ (k = 29 ∧ i = t) ∨ (k = 28 ∧ i = t) ∨ (k = 26 ∧ i = t)) m0 m → (0 ≤ y ∧ y ≤ 7) → (m.1 26 t 7 = x ∧ m.1 26 t 8 = 1 ∧ (1 ≤ y → m.1 26 t 9 = 0 ∧ m.1 26 t 10 = 0)) → (∀ q : Nat, (q : Int) < y → zCl m t q) →  wW (zK sc) zM138 12 [(0, .inr (.inr (.inl (some (26, t))))), (2, .inl y)] [] n m (wr (fun vv n1 m1 => vv = none ∧ n = n1 ∧ zB c m1 ∧ zfr (fun k i j => (k = 1 ∧ 101 + 7 * t ≤ i ∧ i < 108 + 7 * t ∧ j = 1) ∨ (k = 29 ∧ i = t) ∨ (k = 28 ∧ i = t) ∨ (k = 26 ∧ i = t)) m0 m1 ∧ (m1.1 26 t 7 = x ∧ m1.1 26 t 8 = 1 ∧ m1.1 26 t 9 = 0 ∧ m1.1 26 t 10 = 0 ∧ ∀ q, q < 7 → zCl m1 t q))) := by
  intro d
  induction d using Nat.strongRecOn with
  | ind d ih =>
    intro y m hd hGm hFm hi hm hc9
    refine ww_go 2 (pc' := 15) (L' := [(0, .inr (.inr (.inl (some (26, t))))), (2, .inl y)]) (st' := [.inl 7, .inl y]) (m' := m) (o := none) rfl trivial ?_
    refine ww_ic (t := 29) rfl rfl (by omega) (fun (h1 : 7 ≤ y) => ?_) (fun (h1 : ¬ (7 ≤ y)) => ?_)
    · show wW (zK sc) zM138 29 [(0, .inr (.inr (.inl (some (26, t))))), (2, .inl y)] [] _ _ _
      exact ww_rV rfl rfl ⟨rfl, rfl, zB_mono hGm (by omega), hFm, ⟨by omega, by omega, by omega, by omega, fun q hq => hc9 q (by omega)⟩⟩
    · show wW (zK sc) zM138 18 [(0, .inr (.inr (.inl (some (26, t))))), (2, .inl y)] [] _ _ _
      refine ww_go 2 (pc' := 20) (L' := [(0, .inr (.inr (.inl (some (26, t))))), (2, .inl y)]) (st' := [.inl y, .inr (.inr (.inl (some (26, t))))]) (m' := m) (o := none) rfl trivial ?_
      refine ww_call (vs := [.inr (.inr (.inl (some (26, t)))), .inl y]) (r := []) (p := t < 10) rfl rfl rfl rfl (show t < 10 from by omega) (yt139 (c := c) (by omega) y t hGm (by omega)) ?_
      rintro _ _ m4 ⟨rfl, rfl, hGm4, hEm4, hr3⟩
      have hFm4 : zfr (fun k i j => (k = 1 ∧ 101 + 7 * t ≤ i ∧ i < 108 + 7 * t ∧ j = 1) ∨ (k = 29 ∧ i = t) ∨ (k = 28 ∧ i = t) ∨ (k = 26 ∧ i = t)) m0 m4 := zfr_tr hFm hEm4 (fun k i j z => Or.elim z (fun z => (show (k = 1 ∧ 101 + 7 * t ≤ i ∧ i < 108 + 7 * t ∧ j = 1) ∨ (k = 29 ∧ i = t) ∨ (k = 28 ∧ i = t) ∨ (k = 26 ∧ i = t) from Or.inl ((show k = 1 ∧ 101 + 7 * t ≤ i ∧ i < 108 + 7 * t ∧ j = 1 from by omega)))) (fun z => Or.elim z (fun z => (show (k = 1 ∧ 101 + 7 * t ≤ i ∧ i < 108 + 7 * t ∧ j = 1) ∨ (k = 29 ∧ i = t) ∨ (k = 28 ∧ i = t) ∨ (k = 26 ∧ i = t) from Or.inr (Or.inl ((show k = 29 ∧ i = t from by omega))))) (fun z => Or.elim z (fun z => (show (k = 1 ∧ 101 + 7 * t ≤ i ∧ i < 108 + 7 * t ∧ j = 1) ∨ (k = 29 ∧ i = t) ∨ (k = 28 ∧ i = t) ∨ (k = 26 ∧ i = t) from Or.inr (Or.inr (Or.inl ((show k = 28 ∧ i = t from by omega)))))) (fun z => (show (k = 1 ∧ 101 + 7 * t ≤ i ∧ i < 108 + 7 * t ∧ j = 1) ∨ (k = 29 ∧ i = t) ∨ (k = 28 ∧ i = t) ∨ (k = 26 ∧ i = t) from Or.inr (Or.inr (Or.inr ((show k = 26 ∧ i = t from by omega)))))))))
      show wW (zK sc) zM138 23 [(0, .inr (.inr (.inl (some (26, t))))), (2, .inl y)] [] _ _ _
      have w5 : m4.1 26 t 7 = m.1 26 t 7 := (hEm4 26 t 7 (show ¬ ((26 = 1 ∧ t = 101 + 7 * t + y.toNat ∧ 7 = 1) ∨ (26 = 29 ∧ t = t ∧ 7 = y.toNat) ∨ (26 = 28 ∧ t = t ∧ 2 * y.toNat ≤ 7 ∧ 7 ≤ 2 * y.toNat + 1) ∨ (26 = 26 ∧ t = t ∧ 9 ≤ 7 ∧ 7 ≤ 10 ∧ y = 0)) from by omega)).1
      have w6 : m4.1 26 t 8 = m.1 26 t 8 := (hEm4 26 t 8 (show ¬ ((26 = 1 ∧ t = 101 + 7 * t + y.toNat ∧ 8 = 1) ∨ (26 = 29 ∧ t = t ∧ 8 = y.toNat) ∨ (26 = 28 ∧ t = t ∧ 2 * y.toNat ≤ 8 ∧ 8 ≤ 2 * y.toNat + 1) ∨ (26 = 26 ∧ t = t ∧ 9 ≤ 8 ∧ 8 ≤ 10 ∧ y = 0)) from by omega)).1
      have w7 : ¬ (y = 0) → m4.1 26 t 9 = m.1 26 t 9 := fun z => (hEm4 26 t 9 (show ¬ ((26 = 1 ∧ t = 101 + 7 * t + y.toNat ∧ 9 = 1) ∨ (26 = 29 ∧ t = t ∧ 9 = y.toNat) ∨ (26 = 28 ∧ t = t ∧ 2 * y.toNat ≤ 9 ∧ 9 ≤ 2 * y.toNat + 1) ∨ (26 = 26 ∧ t = t ∧ 9 ≤ 9 ∧ 9 ≤ 10 ∧ y = 0)) from by omega)).1
      have w8 : ¬ (y = 0) → m4.1 26 t 10 = m.1 26 t 10 := fun z => (hEm4 26 t 10 (show ¬ ((26 = 1 ∧ t = 101 + 7 * t + y.toNat ∧ 10 = 1) ∨ (26 = 29 ∧ t = t ∧ 10 = y.toNat) ∨ (26 = 28 ∧ t = t ∧ 2 * y.toNat ≤ 10 ∧ 10 ≤ 2 * y.toNat + 1) ∨ (26 = 26 ∧ t = t ∧ 9 ≤ 10 ∧ 10 ≤ 10 ∧ y = 0)) from by omega)).1
      refine ww_go 2 (pc' := 12) (L' := [(2, .inl (y + 1)), (0, .inr (.inr (.inl (some (26, t)))))]) (st' := []) (m' := m4) (o := none) rfl trivial ?_
      refine ww_sub (L := [(0, .inr (.inr (.inl (some (26, t))))), (2, .inl (y + 1))]) ⟨rfl, rfl, trivial⟩ rfl rfl ?_
      exact (ih _ (by omega)) (y + 1) m4 rfl (zB_mono hGm4 (by omega)) hFm4 (by omega) (by have z9 := hr3.2; omega) (by exact fun q hq => (Decidable.em ((q : Int) < y)).elim (fun z => zCl_fr (hc9 q z) hEm4 (show ¬ ((1 = 1 ∧ (101 + 7 * t + q) = 101 + 7 * t + y.toNat ∧ 1 = 1) ∨ (1 = 29 ∧ (101 + 7 * t + q) = t ∧ 1 = y.toNat) ∨ (1 = 28 ∧ (101 + 7 * t + q) = t ∧ 2 * y.toNat ≤ 1 ∧ 1 ≤ 2 * y.toNat + 1) ∨ (1 = 26 ∧ (101 + 7 * t + q) = t ∧ 9 ≤ 1 ∧ 1 ≤ 10 ∧ y = 0)) from by omega) (show ¬ ((29 = 1 ∧ t = 101 + 7 * t + y.toNat ∧ q = 1) ∨ (29 = 29 ∧ t = t ∧ q = y.toNat) ∨ (29 = 28 ∧ t = t ∧ 2 * y.toNat ≤ q ∧ q ≤ 2 * y.toNat + 1) ∨ (29 = 26 ∧ t = t ∧ 9 ≤ q ∧ q ≤ 10 ∧ y = 0)) from by omega) (show ¬ ((28 = 1 ∧ t = 101 + 7 * t + y.toNat ∧ (2 * q) = 1) ∨ (28 = 29 ∧ t = t ∧ (2 * q) = y.toNat) ∨ (28 = 28 ∧ t = t ∧ 2 * y.toNat ≤ (2 * q) ∧ (2 * q) ≤ 2 * y.toNat + 1) ∨ (28 = 26 ∧ t = t ∧ 9 ≤ (2 * q) ∧ (2 * q) ≤ 10 ∧ y = 0)) from by omega) (show ¬ ((28 = 1 ∧ t = 101 + 7 * t + y.toNat ∧ (2 * q + 1) = 1) ∨ (28 = 29 ∧ t = t ∧ (2 * q + 1) = y.toNat) ∨ (28 = 28 ∧ t = t ∧ 2 * y.toNat ≤ (2 * q + 1) ∧ (2 * q + 1) ≤ 2 * y.toNat + 1) ∨ (28 = 26 ∧ t = t ∧ 9 ≤ (2 * q + 1) ∧ (2 * q + 1) ≤ 10 ∧ y = 0)) from by omega)) (fun z => (by rw [show q = y.toNat from by omega]; exact hr3.1)))
set_option maxRecDepth 8000 in
/-- Version.begin -/
theorem yt138 {sc : xSc} {n : Nat × Nat} {m0 : wm} {c : Int} (hc : 0 ≤ c ∧ c ≤ 1000000) (x : Int) (t : Nat) (hG : zB c m0) (h0 : t < 10 ∧ 0 ≤ x ∧ x ≤ 65535) : wX (zK sc) 138 [.inr (.inr (.inl (some (26, t)))), .inl x] n m0 (wr (fun vv n1 m1 => vv = none ∧ n = n1 ∧ zB c m1 ∧ zfr (fun k i j => (k = 1 ∧ 101 + 7 * t ≤ i ∧ i < 108 + 7 * t ∧ j = 1) ∨ (k = 29 ∧ i = t) ∨ (k = 28 ∧ i = t) ∨ (k = 26 ∧ i = t)) m0 m1 ∧ (m1.1 26 t 7 = x ∧ m1.1 26 t 8 = 1 ∧ m1.1 26 t 9 = 0 ∧ m1.1 26 t 10 = 0 ∧ ∀ q, q < 7 → zCl m1 t q))) := by
  refine wX_of (N := zM138) rfl (Nat.le_of_ble_eq_true rfl) ?_
  show wW (zK sc) zM138 0 [(0, .inr (.inr (.inl (some (26, t))))), (1, .inl x)] [] n m0 _
  have hF : zfr (fun k i j => (k = 1 ∧ 101 + 7 * t ≤ i ∧ i < 108 + 7 * t ∧ j = 1) ∨ (k = 29 ∧ i = t) ∨ (k = 28 ∧ i = t) ∨ (k = 26 ∧ i = t)) m0 m0 := zfr_rf
  refine ww_go 3 (pc' := 5) (L' := [(0, .inr (.inr (.inl (some (26, t))))), (1, .inl x)]) (st' := []) (m' := wuI m0 26 t 7 x) (o := some ((t < 10))) rfl (show (t < 10) from by omega) ?_
  obtain ⟨m1, hm1⟩ : ∃ zq9 : wm, zq9 = wuI m0 26 t 7 x := ⟨_, rfl⟩
  rw [← hm1]
  have hGm1 : zB c m1 := by rw [hm1]; exact zB_wI rfl (show 0 ≤ x ∧ x ≤ 65535 from by omega) hG
  have hFm1 : zfr (fun k i j => (k = 1 ∧ 101 + 7 * t ≤ i ∧ i < 108 + 7 * t ∧ j = 1) ∨ (k = 29 ∧ i = t) ∨ (k = 28 ∧ i = t) ∨ (k = 26 ∧ i = t)) m0 m1 := by rw [hm1]; exact zfr_wI hF (show (26 = 1 ∧ 101 + 7 * t ≤ t ∧ t < 108 + 7 * t ∧ 7 = 1) ∨ (26 = 29 ∧ t = t) ∨ (26 = 28 ∧ t = t) ∨ (26 = 26 ∧ t = t) from Or.inr (Or.inr (Or.inr (⟨rfl, rfl⟩))))
  have s2 : m1.1 26 t 7 = x := by rw [hm1]; exact wuI_self
  have w3 : m1.1 26 t 8 = m0.1 26 t 8 := by rw [hm1]; exact wuI_nj (by omega)
  refine ww_go 3 (pc' := 10) (L' := [(0, .inr (.inr (.inl (some (26, t))))), (1, .inl x)]) (st' := []) (m' := wuI m1 26 t 8 1) (o := some ((t < 10))) rfl (show (t < 10) from by omega) ?_
  obtain ⟨m4, hm4⟩ : ∃ zq9 : wm, zq9 = wuI m1 26 t 8 1 := ⟨_, rfl⟩
  rw [← hm4]
  have hGm4 : zB c m4 := by rw [hm4]; exact zB_wI rfl (show 0 ≤ (1 : Int) ∧ (1 : Int) ≤ 5 from by omega) hGm1
  have hFm4 : zfr (fun k i j => (k = 1 ∧ 101 + 7 * t ≤ i ∧ i < 108 + 7 * t ∧ j = 1) ∨ (k = 29 ∧ i = t) ∨ (k = 28 ∧ i = t) ∨ (k = 26 ∧ i = t)) m0 m4 := by rw [hm4]; exact zfr_wI hFm1 (show (26 = 1 ∧ 101 + 7 * t ≤ t ∧ t < 108 + 7 * t ∧ 8 = 1) ∨ (26 = 29 ∧ t = t) ∨ (26 = 28 ∧ t = t) ∨ (26 = 26 ∧ t = t) from Or.inr (Or.inr (Or.inr (⟨rfl, rfl⟩))))
  have s5 : m4.1 26 t 8 = (1 : Int) := by rw [hm4]; exact wuI_self
  have w6 : m4.1 26 t 7 = m1.1 26 t 7 := by rw [hm4]; exact wuI_nj (by omega)
  refine ww_go 2 (pc' := 12) (L' := [(2, .inl 0), (0, .inr (.inr (.inl (some (26, t))))), (1, .inl x)]) (st' := []) (m' := m4) (o := none) rfl trivial ?_
  refine ww_sub (L := [(0, .inr (.inr (.inl (some (26, t))))), (2, .inl 0)]) ⟨rfl, rfl, trivial⟩ rfl rfl ?_
  exact (yt138_l12 hc x t hG h0 _) 0 m4 rfl (zB_mono hGm4 (by omega)) hFm4 (by omega) (by omega) (by exact fun q hq => absurd hq (by omega))
set_option maxRecDepth 8000 in
/-- Version.isSolved -/
theorem yt150 {sc : xSc} {n : Nat × Nat} {m : wm} {c : Int} (hc : 0 ≤ c ∧ c ≤ 1000000) (x : Int) (y : Int) (t : Nat) (hG : zB c m) (h0 : t < 10 ∧ 0 ≤ x ∧ x ≤ 6 ∧ 0 ≤ y ∧ y ≤ 1) : wX (zK sc) 150 [.inr (.inr (.inl (some (26, t)))), .inl x, .inl y] n m (wr (fun vv n1 m1 => ∃ r : Int, vv = some (.inl r) ∧ n = n1 ∧ m = m1 ∧ (r = m.1 28 t (2 * x.toNat + y.toNat) ∧ 0 ≤ r ∧ r ≤ 1))) := by
  refine wX_of (N := zM150) rfl (Nat.le_of_ble_eq_true rfl) ?_
  show wW (zK sc) zM150 0 [(0, .inr (.inr (.inl (some (26, t))))), (1, .inl x), (2, .inl y)] [] n m _
  have b1 : 0 ≤ m.1 28 t (((x * 2) + y).toNat) ∧ m.1 28 t (((x * 2) + y).toNat) ≤ 1 := hG.1 28 _ rfl _ _
  refine ww_go 8 (pc' := 10) (L' := [(0, .inr (.inr (.inl (some (26, t))))), (1, .inl x), (2, .inl y)]) (st' := [.inl (m.1 28 t (((x * 2) + y).toNat))]) (m' := m) (o := some ((t < 10) ∧ (t < 10 ∧ 0 ≤ (x * 2) + y ∧ (x * 2) + y < ((14 : Nat) : Int)))) rfl (show (t < 10) ∧ (t < 10 ∧ 0 ≤ (x * 2) + y ∧ (x * 2) + y < ((14 : Nat) : Int)) from by omega) ?_
  exact ww_rB rfl rfl (by omega) ⟨_, rfl, rfl, rfl, by exact ⟨by rw [show 2 * x.toNat + y.toNat = (x * 2 + y).toNat from by omega], by omega, by omega⟩⟩
set_option maxRecDepth 8000 in
/-- Version.hasSolved -/
theorem yt142 {sc : xSc} {n : Nat × Nat} {m : wm} {c : Int} (hc : 0 ≤ c ∧ c ≤ 1000000) (x : Int) (t : Nat) (hG : zB c m) (h0 : t < 10 ∧ 0 ≤ x ∧ x ≤ 6) : wX (zK sc) 142 [.inr (.inr (.inl (some (26, t)))), .inl x] n m (wr (fun vv n1 m1 => ∃ r : Int, vv = some (.inl r) ∧ n = n1 ∧ m = m1 ∧ ((r = 1 ∧ (m.1 28 t (2 * x.toNat) = 1 ∨ m.1 28 t (2 * x.toNat + 1) = 1)) ∨ (r = 0 ∧ m.1 28 t (2 * x.toNat) = 0 ∧ m.1 28 t (2 * x.toNat + 1) = 0)))) := by
  refine wX_of (N := zM142) rfl (Nat.le_of_ble_eq_true rfl) ?_
  show wW (zK sc) zM142 0 [(0, .inr (.inr (.inl (some (26, t))))), (1, .inl x)] [] n m _
  have bs0 : 0 ≤ m.1 28 t (2 * x.toNat) ∧ m.1 28 t (2 * x.toNat) ≤ 1 := hG.1 28 _ rfl _ _
  have bs1 : 0 ≤ m.1 28 t (2 * x.toNat + 1) ∧ m.1 28 t (2 * x.toNat + 1) ≤ 1 := hG.1 28 _ rfl _ _
  refine ww_go 3 (pc' := 3) (L' := [(0, .inr (.inr (.inl (some (26, t))))), (1, .inl x)]) (st' := [.inl 0, .inl x, .inr (.inr (.inl (some (26, t))))]) (m' := m) (o := none) rfl trivial ?_
  refine ww_call (vs := [.inr (.inr (.inl (some (26, t)))), .inl x, .inl 0]) (r := []) (p := t < 10) rfl rfl rfl rfl (show t < 10 from by omega) (yt150 (c := c) (by omega) x 0 t hG (by omega)) ?_
  rintro _ _ _ ⟨r1, rfl, rfl, rfl, hr2⟩
  have zq3 : r1 = m.1 28 t (2 * x.toNat + 0) := hr2.1
  have zq4 : m.1 28 t (2 * x.toNat + 0) = m.1 28 t (2 * x.toNat) := rfl
  show wW (zK sc) zM142 6 [(0, .inr (.inr (.inl (some (26, t))))), (1, .inl x)] [.inl r1] _ _ _
  refine ww_if (t := 18) rfl rfl (by omega) (fun (h5 : r1 ≠ 0) => ?_) (fun (h5 : ¬ (r1 ≠ 0)) => ?_)
  · show wW (zK sc) zM142 18 [(0, .inr (.inr (.inl (some (26, t))))), (1, .inl x)] [] _ _ _
    refine ww_go 2 (pc' := 23) (L' := [(0, .inr (.inr (.inl (some (26, t))))), (1, .inl x)]) (st' := [.inl 1]) (m' := m) (o := none) rfl trivial ?_
    exact ww_rB rfl rfl (by omega) ⟨_, rfl, rfl, rfl, by omega⟩
  · show wW (zK sc) zM142 9 [(0, .inr (.inr (.inl (some (26, t))))), (1, .inl x)] [] _ _ _
    refine ww_go 3 (pc' := 12) (L' := [(0, .inr (.inr (.inl (some (26, t))))), (1, .inl x)]) (st' := [.inl 1, .inl x, .inr (.inr (.inl (some (26, t))))]) (m' := m) (o := none) rfl trivial ?_
    refine ww_call (vs := [.inr (.inr (.inl (some (26, t)))), .inl x, .inl 1]) (r := []) (p := t < 10) rfl rfl rfl rfl (show t < 10 from by omega) (yt150 (c := c) (by omega) x 1 t hG (by omega)) ?_
    rintro _ _ _ ⟨r6, rfl, rfl, rfl, hr7⟩
    have zq8 : r6 = m.1 28 t (2 * x.toNat + 1) := hr7.1
    show wW (zK sc) zM142 15 [(0, .inr (.inr (.inl (some (26, t))))), (1, .inl x)] [.inl r6] _ _ _
    refine ww_if (t := 22) rfl rfl (by omega) (fun (h9 : r6 = 0) => ?_) (fun (h9 : ¬ (r6 = 0)) => ?_)
    · show wW (zK sc) zM142 22 [(0, .inr (.inr (.inl (some (26, t))))), (1, .inl x)] [] _ _ _
      refine ww_go 1 (pc' := 23) (L' := [(0, .inr (.inr (.inl (some (26, t))))), (1, .inl x)]) (st' := [.inl 0]) (m' := m) (o := none) rfl trivial ?_
      exact ww_rB rfl rfl (by omega) ⟨_, rfl, rfl, rfl, by omega⟩
    · show wW (zK sc) zM142 18 [(0, .inr (.inr (.inl (some (26, t))))), (1, .inl x)] [] _ _ _
      refine ww_go 2 (pc' := 23) (L' := [(0, .inr (.inr (.inl (some (26, t))))), (1, .inl x)]) (st' := [.inl 1]) (m' := m) (o := none) rfl trivial ?_
      exact ww_rB rfl rfl (by omega) ⟨_, rfl, rfl, rfl, by omega⟩
set_option maxRecDepth 8000 in
/-- Version.solve -/
theorem yt158 {sc : xSc} {n : Nat × Nat} {m0 : wm} {c : Int} (hc : 0 ≤ c ∧ c ≤ 1000000) (x : Int) (y : Int) (t : Nat) (hG : zB c m0) (h0 : t < 10 ∧ 0 ≤ x ∧ x ≤ 6 ∧ 0 ≤ y ∧ y ≤ 1) : wX (zK sc) 158 [.inr (.inr (.inl (some (26, t)))), .inl x, .inl y] n m0 (wr (fun vv n1 m1 => vv = none ∧ n = n1 ∧ zB c m1 ∧ zfr (fun k i j => (k = 28 ∧ i = t ∧ j = 2 * x.toNat + y.toNat)) m0 m1 ∧ (m1.1 28 t (2 * x.toNat + y.toNat) = 1))) := by
  refine wX_of (N := zM158) rfl (Nat.le_of_ble_eq_true rfl) ?_
  show wW (zK sc) zM158 0 [(0, .inr (.inr (.inl (some (26, t))))), (1, .inl x), (2, .inl y)] [] n m0 _
  have hF : zfr (fun k i j => (k = 28 ∧ i = t ∧ j = 2 * x.toNat + y.toNat)) m0 m0 := zfr_rf
  refine ww_go 9 (pc' := 11) (L' := [(0, .inr (.inr (.inl (some (26, t))))), (1, .inl x), (2, .inl y)]) (st' := []) (m' := wuI m0 28 t (((x * 2) + y).toNat) 1) (o := some ((t < 10) ∧ (t < 10 ∧ 0 ≤ (x * 2) + y ∧ (x * 2) + y < ((14 : Nat) : Int) ∧ 0 ≤ (1 : Int) ∧ (1 : Int) ≤ 1))) rfl (show (t < 10) ∧ (t < 10 ∧ 0 ≤ (x * 2) + y ∧ (x * 2) + y < ((14 : Nat) : Int) ∧ 0 ≤ (1 : Int) ∧ (1 : Int) ≤ 1) from by omega) ?_
  obtain ⟨m1, hm1⟩ : ∃ zq9 : wm, zq9 = wuI m0 28 t (((x * 2) + y).toNat) 1 := ⟨_, rfl⟩
  rw [← hm1]
  have hGm1 : zB c m1 := by rw [hm1]; exact zB_wI rfl (show 0 ≤ (1 : Int) ∧ (1 : Int) ≤ 1 from by omega) hG
  have hFm1 : zfr (fun k i j => (k = 28 ∧ i = t ∧ j = 2 * x.toNat + y.toNat)) m0 m1 := by rw [hm1]; exact zfr_wI hF (show (28 = 28 ∧ t = t ∧ (((x * 2) + y).toNat) = 2 * x.toNat + y.toNat) from (show (28 = 28 ∧ t = t ∧ (((x * 2) + y).toNat) = 2 * x.toNat + y.toNat) from by omega))
  have s2 : m1.1 28 t (((x * 2) + y).toNat) = (1 : Int) := by rw [hm1]; exact wuI_self
  exact ww_rV rfl rfl ⟨rfl, rfl, zB_mono hGm1 (by omega), hFm1, by (rw [show 2 * x.toNat + y.toNat = (x * 2 + y).toNat from by omega]; omega)⟩
set_option maxRecDepth 8000 in
/-- Version.isComplete -/
theorem yt148 {sc : xSc} {n : Nat × Nat} {m : wm} {c : Int} (hc : 0 ≤ c ∧ c ≤ 1000000) (x : Int) (t : Nat) (hG : zB c m) (h0 : t < 10 ∧ 0 ≤ x ∧ x ≤ 6) : wX (zK sc) 148 [.inr (.inr (.inl (some (26, t)))), .inl x] n m (wr (fun vv n1 m1 => ∃ r : Int, vv = some (.inl r) ∧ n = n1 ∧ m = m1 ∧ ((r = 1 ∧ m.1 28 t (2 * x.toNat) = 1 ∧ (m.1 28 t (2 * x.toNat + 1) = 1 ∨ m.1 1 (101 + 7 * t + x.toNat) 1 ≤ 64)) ∨ (r = 0 ∧ ¬ (m.1 28 t (2 * x.toNat) = 1 ∧ (m.1 28 t (2 * x.toNat + 1) = 1 ∨ m.1 1 (101 + 7 * t + x.toNat) 1 ≤ 64)))))) := by
  refine wX_of (N := zM148) rfl (Nat.le_of_ble_eq_true rfl) ?_
  show wW (zK sc) zM148 0 [(0, .inr (.inr (.inl (some (26, t))))), (1, .inl x)] [] n m _
  have zl9 := zlim_le (101 + 7 * t + x.toNat)
  have bs0 : 0 ≤ m.1 28 t (2 * x.toNat) ∧ m.1 28 t (2 * x.toNat) ≤ 1 := hG.1 28 _ rfl _ _
  have bs1 : 0 ≤ m.1 28 t (2 * x.toNat + 1) ∧ m.1 28 t (2 * x.toNat + 1) ≤ 1 := hG.1 28 _ rfl _ _
  refine ww_go 3 (pc' := 3) (L' := [(0, .inr (.inr (.inl (some (26, t))))), (1, .inl x)]) (st' := [.inl 0, .inl x, .inr (.inr (.inl (some (26, t))))]) (m' := m) (o := none) rfl trivial ?_
  refine ww_call (vs := [.inr (.inr (.inl (some (26, t)))), .inl x, .inl 0]) (r := []) (p := t < 10) rfl rfl rfl rfl (show t < 10 from by omega) (yt150 (c := c) (by omega) x 0 t hG (by omega)) ?_
  rintro _ _ _ ⟨r1, rfl, rfl, rfl, hr2⟩
  have zq3 : r1 = m.1 28 t (2 * x.toNat + 0) := hr2.1
  have zq4 : m.1 28 t (2 * x.toNat + 0) = m.1 28 t (2 * x.toNat) := rfl
  show wW (zK sc) zM148 6 [(0, .inr (.inr (.inl (some (26, t))))), (1, .inl x)] [.inl r1] _ _ _
  refine ww_if (t := 38) rfl rfl (by omega) (fun (h5 : r1 = 0) => ?_) (fun (h5 : ¬ (r1 = 0)) => ?_)
  · show wW (zK sc) zM148 38 [(0, .inr (.inr (.inl (some (26, t))))), (1, .inl x)] [] _ _ _
    refine ww_go 1 (pc' := 39) (L' := [(0, .inr (.inr (.inl (some (26, t))))), (1, .inl x)]) (st' := [.inl 0]) (m' := m) (o := none) rfl trivial ?_
    exact ww_rB rfl rfl (by omega) ⟨_, rfl, rfl, rfl, by omega⟩
  · show wW (zK sc) zM148 9 [(0, .inr (.inr (.inl (some (26, t))))), (1, .inl x)] [] _ _ _
    refine ww_go 3 (pc' := 12) (L' := [(0, .inr (.inr (.inl (some (26, t))))), (1, .inl x)]) (st' := [.inl 1, .inl x, .inr (.inr (.inl (some (26, t))))]) (m' := m) (o := none) rfl trivial ?_
    refine ww_call (vs := [.inr (.inr (.inl (some (26, t)))), .inl x, .inl 1]) (r := []) (p := t < 10) rfl rfl rfl rfl (show t < 10 from by omega) (yt150 (c := c) (by omega) x 1 t hG (by omega)) ?_
    rintro _ _ _ ⟨r6, rfl, rfl, rfl, hr7⟩
    have zq8 : r6 = m.1 28 t (2 * x.toNat + 1) := hr7.1
    show wW (zK sc) zM148 15 [(0, .inr (.inr (.inl (some (26, t))))), (1, .inl x)] [.inl r6] _ _ _
    refine ww_if (t := 34) rfl rfl (by omega) (fun (h9 : r6 ≠ 0) => ?_) (fun (h9 : ¬ (r6 ≠ 0)) => ?_)
    · show wW (zK sc) zM148 34 [(0, .inr (.inr (.inl (some (26, t))))), (1, .inl x)] [] _ _ _
      refine ww_go 2 (pc' := 39) (L' := [(0, .inr (.inr (.inl (some (26, t))))), (1, .inl x)]) (st' := [.inl 1]) (m' := m) (o := none) rfl trivial ?_
      exact ww_rB rfl rfl (by omega) ⟨_, rfl, rfl, rfl, by omega⟩
    · show wW (zK sc) zM148 18 [(0, .inr (.inr (.inl (some (26, t))))), (1, .inl x)] [] _ _ _
      refine ww_go 4 (pc' := 24) (L' := [(0, .inr (.inr (.inl (some (26, t))))), (1, .inl x)]) (st' := [.inr (.inr (.inl (some (1, 101 + 7 * t + x.toNat))))]) (m' := m) (o := some ((t < 10) ∧ (t < 10 ∧ 0 ≤ x ∧ x < ((7 : Nat) : Int)))) rfl (show (t < 10) ∧ (t < 10 ∧ 0 ≤ x ∧ x < ((7 : Nat) : Int)) from by omega) ?_
      refine ww_call (vs := [.inr (.inr (.inl (some (1, 101 + 7 * t + x.toNat))))]) (r := []) (p := 101 + 7 * t + x.toNat < 171) rfl rfl rfl rfl (show 101 + 7 * t + x.toNat < 171 from by omega) (zs40 (c := c) (by omega) (101 + 7 * t + x.toNat) hG (by omega)) ?_
      rintro _ _ _ ⟨r10, rfl, rfl, rfl, hr11⟩
      show wW (zK sc) zM148 27 [(0, .inr (.inr (.inl (some (26, t))))), (1, .inl x)] [.inl r10] _ _ _
      refine ww_call (vs := [.inl r10]) (r := []) (p := True) rfl rfl rfl rfl trivial (zs42 r10 (by omega)) ?_
      rintro _ _ _ ⟨r12, rfl, rfl, rfl, hr13⟩
      show wW (zK sc) zM148 30 [(0, .inr (.inr (.inl (some (26, t))))), (1, .inl x)] [.inl r12] _ _ _
      refine ww_go 1 (pc' := 31) (L' := [(0, .inr (.inr (.inl (some (26, t))))), (1, .inl x)]) (st' := [.inl 1, .inl r12]) (m' := m) (o := none) rfl trivial ?_
      refine ww_ic (t := 38) rfl rfl (by omega) (fun (h14 : r12 ≠ 1) => ?_) (fun (h14 : ¬ (r12 ≠ 1)) => ?_)
      · show wW (zK sc) zM148 38 [(0, .inr (.inr (.inl (some (26, t))))), (1, .inl x)] [] _ _ _
        refine ww_go 1 (pc' := 39) (L' := [(0, .inr (.inr (.inl (some (26, t))))), (1, .inl x)]) (st' := [.inl 0]) (m' := m) (o := none) rfl trivial ?_
        exact ww_rB rfl rfl (by omega) ⟨_, rfl, rfl, rfl, by omega⟩
      · show wW (zK sc) zM148 34 [(0, .inr (.inr (.inl (some (26, t))))), (1, .inl x)] [] _ _ _
        refine ww_go 2 (pc' := 39) (L' := [(0, .inr (.inr (.inl (some (26, t))))), (1, .inl x)]) (st' := [.inl 1]) (m' := m) (o := none) rfl trivial ?_
        exact ww_rB rfl rfl (by omega) ⟨_, rfl, rfl, rfl, by omega⟩
set_option maxRecDepth 8000 in
theorem yt151_l2 {sc : xSc} {n : Nat × Nat} {m : wm} {c : Int} (hc : 0 ≤ c ∧ c ≤ 1000000) (t : Nat) (hG : zB c m) (h0 : t < 10) : ∀ (d : Nat), ∀ (x : Int), (7 - x).toNat = d → (1 ≤ x ∧ x ≤ 7) →  wW (zK sc) zM151 2 [(0, .inr (.inr (.inl (some (26, t))))), (1, .inl x)] [] n m (wr (fun vv n1 m1 => ∃ r : Int, vv = some (.inl r) ∧ n = n1 ∧ m = m1 ∧ (0 ≤ r ∧ r ≤ 1))) := by
  intro d
  induction d using Nat.strongRecOn with
  | ind d ih =>
    intro x hd hi
    have b1 : 0 ≤ m.1 26 t 9 ∧ m.1 26 t 9 ≤ 6 := hG.1 26 _ rfl _ _
    refine ww_go 3 (pc' := 7) (L' := [(0, .inr (.inr (.inl (some (26, t))))), (1, .inl x)]) (st' := [.inl (m.1 26 t 9), .inl x]) (m' := m) (o := some ((t < 10))) rfl (show (t < 10) from by omega) ?_
    refine ww_ic (t := 27) rfl rfl (by omega) (fun (h2 : m.1 26 t 9 < x) => ?_) (fun (h2 : ¬ (m.1 26 t 9 < x)) => ?_)
    · show wW (zK sc) zM151 27 [(0, .inr (.inr (.inl (some (26, t))))), (1, .inl x)] [] _ _ _
      have b3 : 0 ≤ m.1 26 t 10 ∧ m.1 26 t 10 ≤ 1 := hG.1 26 _ rfl _ _
      refine ww_go 2 (pc' := 31) (L' := [(0, .inr (.inr (.inl (some (26, t))))), (1, .inl x)]) (st' := [.inl (m.1 26 t 10)]) (m' := m) (o := some ((t < 10))) rfl (show (t < 10) from by omega) ?_
      exact ww_rB rfl rfl (by omega) ⟨_, rfl, rfl, rfl, by omega⟩
    · show wW (zK sc) zM151 10 [(0, .inr (.inr (.inl (some (26, t))))), (1, .inl x)] [] _ _ _
      have b4 : 0 ≤ m.1 29 t x.toNat ∧ m.1 29 t x.toNat ≤ 1 := hG.1 29 _ rfl _ _
      refine ww_go 4 (pc' := 16) (L' := [(0, .inr (.inr (.inl (some (26, t))))), (1, .inl x)]) (st' := [.inl (m.1 29 t x.toNat)]) (m' := m) (o := some ((t < 10) ∧ (t < 10 ∧ 0 ≤ x ∧ x < ((7 : Nat) : Int)))) rfl (show (t < 10) ∧ (t < 10 ∧ 0 ≤ x ∧ x < ((7 : Nat) : Int)) from by omega) ?_
      refine ww_if (t := 21) rfl rfl (by omega) (fun (h5 : m.1 29 t x.toNat ≠ 0) => ?_) (fun (h5 : ¬ (m.1 29 t x.toNat ≠ 0)) => ?_)
      · show wW (zK sc) zM151 21 [(0, .inr (.inr (.inl (some (26, t))))), (1, .inl x)] [] _ _ _
        refine ww_go 2 (pc' := 2) (L' := [(1, .inl (x + 1)), (0, .inr (.inr (.inl (some (26, t)))))]) (st' := []) (m' := m) (o := none) rfl trivial ?_
        refine ww_sub (L := [(0, .inr (.inr (.inl (some (26, t))))), (1, .inl (x + 1))]) ⟨rfl, rfl, trivial⟩ rfl rfl ?_
        exact (ih _ (by omega)) (x + 1) rfl (by omega)
      · show wW (zK sc) zM151 19 [(0, .inr (.inr (.inl (some (26, t))))), (1, .inl x)] [] _ _ _
        refine ww_go 1 (pc' := 20) (L' := [(0, .inr (.inr (.inl (some (26, t))))), (1, .inl x)]) (st' := [.inl 0]) (m' := m) (o := none) rfl trivial ?_
        exact ww_rB rfl rfl (by omega) ⟨_, rfl, rfl, rfl, by omega⟩
set_option maxRecDepth 8000 in
/-- Version.isWhole -/
theorem yt151 {sc : xSc} {n : Nat × Nat} {m : wm} {c : Int} (hc : 0 ≤ c ∧ c ≤ 1000000) (t : Nat) (hG : zB c m) (h0 : t < 10) : wX (zK sc) 151 [.inr (.inr (.inl (some (26, t))))] n m (wr (fun vv n1 m1 => ∃ r : Int, vv = some (.inl r) ∧ n = n1 ∧ m = m1 ∧ (0 ≤ r ∧ r ≤ 1))) := by
  refine wX_of (N := zM151) rfl (Nat.le_of_ble_eq_true rfl) ?_
  show wW (zK sc) zM151 0 [(0, .inr (.inr (.inl (some (26, t)))))] [] n m _
  refine ww_go 2 (pc' := 2) (L' := [(1, .inl 1), (0, .inr (.inr (.inl (some (26, t)))))]) (st' := []) (m' := m) (o := none) rfl trivial ?_
  refine ww_sub (L := [(0, .inr (.inr (.inl (some (26, t))))), (1, .inl 1)]) ⟨rfl, rfl, trivial⟩ rfl rfl ?_
  exact (yt151_l2 hc t hG h0 _) 1 rfl (by omega)
set_option maxRecDepth 8000 in
/-- Version.nameSize -/
theorem yt154 {sc : xSc} {n : Nat × Nat} {m : wm} {c : Int} (hc : 0 ≤ c ∧ c ≤ 1000000) (x : Int) (t : Nat) (hG : zB c m) (h0 : t < 10 ∧ 0 ≤ x ∧ x ≤ 5) : wX (zK sc) 154 [.inr (.inr (.inl (some (26, t)))), .inl x] n m (wr (fun vv n1 m1 => ∃ r : Int, vv = some (.inl r) ∧ n = n1 ∧ m = m1 ∧ (r = m.1 31 t x.toNat ∧ 0 ≤ r ∧ r ≤ 255))) := by
  refine wX_of (N := zM154) rfl (Nat.le_of_ble_eq_true rfl) ?_
  show wW (zK sc) zM154 0 [(0, .inr (.inr (.inl (some (26, t))))), (1, .inl x)] [] n m _
  have b1 : 0 ≤ m.1 31 t x.toNat ∧ m.1 31 t x.toNat ≤ 255 := hG.1 31 _ rfl _ _
  refine ww_go 4 (pc' := 6) (L' := [(0, .inr (.inr (.inl (some (26, t))))), (1, .inl x)]) (st' := [.inl (m.1 31 t x.toNat)]) (m' := m) (o := some ((t < 10) ∧ (t < 10 ∧ 0 ≤ x ∧ x < ((6 : Nat) : Int)))) rfl (show (t < 10) ∧ (t < 10 ∧ 0 ≤ x ∧ x < ((6 : Nat) : Int)) from by omega) ?_
  exact ww_rI rfl rfl ⟨_, rfl, rfl, rfl, by exact ⟨rfl, by omega, by omega⟩⟩
set_option maxRecDepth 8000 in
/-- Version.namePlace -/
theorem yt153 {sc : xSc} {n : Nat × Nat} {m : wm} {c : Int} (hc : 0 ≤ c ∧ c ≤ 1000000) (x : Int) (t : Nat) (hG : zB c m) (h0 : t < 10 ∧ 0 ≤ x ∧ x ≤ 5) : wX (zK sc) 153 [.inr (.inr (.inl (some (26, t)))), .inl x] n m (wr (fun vv n1 m1 => ∃ r : Int, vv = some (.inl r) ∧ n = n1 ∧ m = m1 ∧ (r = m.1 30 t x.toNat ∧ 0 ≤ r ∧ r ≤ 10000))) := by
  refine wX_of (N := zM153) rfl (Nat.le_of_ble_eq_true rfl) ?_
  show wW (zK sc) zM153 0 [(0, .inr (.inr (.inl (some (26, t))))), (1, .inl x)] [] n m _
  have b1 : 0 ≤ m.1 30 t x.toNat ∧ m.1 30 t x.toNat ≤ 10000 := hG.1 30 _ rfl _ _
  refine ww_go 4 (pc' := 6) (L' := [(0, .inr (.inr (.inl (some (26, t))))), (1, .inl x)]) (st' := [.inl (m.1 30 t x.toNat)]) (m' := m) (o := some ((t < 10) ∧ (t < 10 ∧ 0 ≤ x ∧ x < ((6 : Nat) : Int)))) rfl (show (t < 10) ∧ (t < 10 ∧ 0 ≤ x ∧ x < ((6 : Nat) : Int)) from by omega) ?_
  exact ww_rI rfl rfl ⟨_, rfl, rfl, rfl, by exact ⟨rfl, by omega, by omega⟩⟩
set_option maxRecDepth 8000 in
/-- Version.fileSize -/
theorem yt140 {sc : xSc} {n : Nat × Nat} {m : wm} {c : Int} (hc : 0 ≤ c ∧ c ≤ 1000000) (x : Int) (t : Nat) (hG : zB c m) (h0 : t < 10 ∧ 0 ≤ x ∧ x ≤ 5) : wX (zK sc) 140 [.inr (.inr (.inl (some (26, t)))), .inl x] n m (wr (fun vv n1 m1 => ∃ r : Int, vv = some (.inl r) ∧ n = n1 ∧ m = m1 ∧ (r = m.1 32 t x.toNat ∧ 0 ≤ r ∧ r ≤ 255))) := by
  refine wX_of (N := zM140) rfl (Nat.le_of_ble_eq_true rfl) ?_
  show wW (zK sc) zM140 0 [(0, .inr (.inr (.inl (some (26, t))))), (1, .inl x)] [] n m _
  have b1 : 0 ≤ m.1 32 t x.toNat ∧ m.1 32 t x.toNat ≤ 255 := hG.1 32 _ rfl _ _
  refine ww_go 4 (pc' := 6) (L' := [(0, .inr (.inr (.inl (some (26, t))))), (1, .inl x)]) (st' := [.inl (m.1 32 t x.toNat)]) (m' := m) (o := some ((t < 10) ∧ (t < 10 ∧ 0 ≤ x ∧ x < ((6 : Nat) : Int)))) rfl (show (t < 10) ∧ (t < 10 ∧ 0 ≤ x ∧ x < ((6 : Nat) : Int)) from by omega) ?_
  exact ww_rI rfl rfl ⟨_, rfl, rfl, rfl, by exact ⟨rfl, by omega, by omega⟩⟩
set_option maxRecDepth 8000 in
/-- Receiver.shown -/
theorem yt101 {sc : xSc} {n : Nat × Nat} {m : wm} {c : Int} (hc : 0 ≤ c ∧ c ≤ 1000000) (x : Int) (hG : zB c m) (h0 : 0 ≤ x ∧ x ≤ 1) : wX (zK sc) 101 [.inr (.inr (.inl (some (19, 0)))), .inl x] n m (wr (fun vv n1 m1 => ∃ r : Nat, vv = some (.inr (.inr (.inl (some (26, r))))) ∧ n = n1 ∧ m = m1 ∧ (r = 8 + x.toNat))) := by
  refine wX_of (N := zM101) rfl (Nat.le_of_ble_eq_true rfl) ?_
  show wW (zK sc) zM101 0 [(0, .inr (.inr (.inl (some (19, 0))))), (1, .inl x)] [] n m _
  refine ww_go 4 (pc' := 6) (L' := [(0, .inr (.inr (.inl (some (19, 0))))), (1, .inl x)]) (st' := [.inr (.inr (.inl (some (26, 8 + x.toNat))))]) (m' := m) (o := some ((0 < 1) ∧ (0 < 1 ∧ 0 ≤ x ∧ x < ((2 : Nat) : Int)))) rfl (show (0 < 1) ∧ (0 < 1 ∧ 0 ≤ x ∧ x < ((2 : Nat) : Int)) from by omega) ?_
  exact ww_rA rfl rfl ⟨_, rfl, rfl, rfl, by rfl⟩
set_option maxRecDepth 8000 in
/-- Receiver.dropped -/
theorem yt78 {sc : xSc} {n : Nat × Nat} {m : wm} {c : Int} (hc : 0 ≤ c ∧ c ≤ 1000000)  (hG : zB c m) : wX (zK sc) 78 [.inr (.inr (.inl (some (19, 0))))] n m (wr (fun vv n1 m1 => ∃ r : Int, vv = some (.inl r) ∧ n = n1 ∧ m = m1 ∧ (r = m.1 19 0 6 ∧ 0 ≤ r ∧ r ≤ c))) := by
  refine wX_of (N := zM78) rfl (Nat.le_of_ble_eq_true rfl) ?_
  show wW (zK sc) zM78 0 [(0, .inr (.inr (.inl (some (19, 0)))))] [] n m _
  have b1 : 0 ≤ m.1 19 0 6 ∧ m.1 19 0 6 ≤ c := hG.1 19 _ rfl _ _
  refine ww_go 2 (pc' := 4) (L' := [(0, .inr (.inr (.inl (some (19, 0)))))]) (st' := [.inl (m.1 19 0 6)]) (m' := m) (o := some ((0 < 1))) rfl (show (0 < 1) from by omega) ?_
  exact ww_rI rfl rfl ⟨_, rfl, rfl, rfl, by exact ⟨rfl, by omega, by omega⟩⟩
set_option maxRecDepth 8000 in
/-- Receiver.allRows -/
theorem yt75 {sc : xSc} {n : Nat × Nat} {m : wm} {c : Int} (hc : 0 ≤ c ∧ c ≤ 1000000)  (hG : zB c m) : wX (zK sc) 75 [.inr (.inr (.inl (some (19, 0))))] n m (wr (fun vv n1 m1 => ∃ r : Int, vv = some (.inl r) ∧ n = n1 ∧ m = m1 ∧ (r = m.1 22 0 3 ∧ 0 ≤ r ∧ r ≤ 24))) := by
  refine wX_of (N := zM75) rfl (Nat.le_of_ble_eq_true rfl) ?_
  show wW (zK sc) zM75 0 [(0, .inr (.inr (.inl (some (19, 0)))))] [] n m _
  refine ww_go 2 (pc' := 4) (L' := [(0, .inr (.inr (.inl (some (19, 0)))))]) (st' := [.inr (.inr (.inl (some (22, 0))))]) (m' := m) (o := some ((0 < 1))) rfl (show (0 < 1) from by omega) ?_
  refine ww_call (vs := [.inr (.inr (.inl (some (22, 0))))]) (r := []) (p := 0 < 1) rfl rfl rfl rfl (show 0 < 1 from by omega) (yt118 (c := c) (by omega) hG) ?_
  rintro _ _ _ ⟨r1, rfl, rfl, rfl, hr2⟩
  show wW (zK sc) zM75 7 [(0, .inr (.inr (.inl (some (19, 0)))))] [.inl r1] _ _ _
  exact ww_rI rfl rfl ⟨_, rfl, rfl, rfl, by omega⟩
set_option maxRecDepth 8000 in
/-- Receiver.loseRows -/
theorem yt95 {sc : xSc} {n : Nat × Nat} {m0 : wm} {c : Int} (hc : 0 ≤ c ∧ c ≤ 1000000)  (hG : zB c m0) : wX (zK sc) 95 [.inr (.inr (.inl (some (19, 0))))] n m0 (wr (fun vv n1 m1 => vv = none ∧ n = n1 ∧ zB c m1 ∧ zfr (fun k i j => (k = 22 ∧ j = 3)) m0 m1 ∧ (m1.1 22 0 3 = 0))) := by
  refine wX_of (N := zM95) rfl (Nat.le_of_ble_eq_true rfl) ?_
  show wW (zK sc) zM95 0 [(0, .inr (.inr (.inl (some (19, 0)))))] [] n m0 _
  have hF : zfr (fun k i j => (k = 22 ∧ j = 3)) m0 m0 := zfr_rf
  refine ww_go 2 (pc' := 4) (L' := [(0, .inr (.inr (.inl (some (19, 0)))))]) (st' := [.inr (.inr (.inl (some (22, 0))))]) (m' := m0) (o := some ((0 < 1))) rfl (show (0 < 1) from by omega) ?_
  refine ww_call (vs := [.inr (.inr (.inl (some (22, 0))))]) (r := []) (p := 0 < 1) rfl rfl rfl rfl (show 0 < 1 from by omega) (yt107 (c := c) (by omega) hG) ?_
  rintro _ _ m3 ⟨rfl, rfl, hGm3, hEm3, hr2⟩
  have hFm3 : zfr (fun k i j => (k = 22 ∧ j = 3)) m0 m3 := zfr_tr hF hEm3 (fun k i j z => z)
  show wW (zK sc) zM95 7 [(0, .inr (.inr (.inl (some (19, 0)))))] [] _ _ _
  exact ww_rV rfl rfl ⟨rfl, rfl, zB_mono hGm3 (by omega), hFm3, by omega⟩
set_option maxRecDepth 8000 in
/-- Receiver.knownAt -/
theorem yt87 {sc : xSc} {n : Nat × Nat} {m : wm} {c : Int} (hc : 0 ≤ c ∧ c ≤ 1000000) (x : Int) (y : Int) (hG : zB c m) (h0 : 0 ≤ x ∧ x ≤ 1 ∧ 0 ≤ y ∧ y ≤ 3) : wX (zK sc) 87 [.inr (.inr (.inl (some (19, 0)))), .inl x, .inl y] n m (wr (fun vv n1 m1 => ∃ r : Nat, vv = some (.inr (.inr (.inl (some (26, r))))) ∧ n = n1 ∧ m = m1 ∧ (r = 4 * x.toNat + y.toNat ∧ r < 8))) := by
  refine wX_of (N := zM87) rfl (Nat.le_of_ble_eq_true rfl) ?_
  show wW (zK sc) zM87 0 [(0, .inr (.inr (.inl (some (19, 0))))), (1, .inl x), (2, .inl y)] [] n m _
  refine ww_go 8 (pc' := 10) (L' := [(0, .inr (.inr (.inl (some (19, 0))))), (1, .inl x), (2, .inl y)]) (st' := [.inr (.inr (.inl (some (26, (((x * 4) + y).toNat)))))]) (m' := m) (o := some ((0 < 1) ∧ (0 < 1 ∧ 0 ≤ (x * 4) + y ∧ (x * 4) + y < ((8 : Nat) : Int)))) rfl (show (0 < 1) ∧ (0 < 1 ∧ 0 ≤ (x * 4) + y ∧ (x * 4) + y < ((8 : Nat) : Int)) from by omega) ?_
  exact ww_rA rfl rfl ⟨_, rfl, rfl, rfl, by omega⟩
set_option maxRecDepth 8000 in
theorem yt79_l2 {sc : xSc} {n : Nat × Nat} {m : wm} {c : Int} (hc : 0 ≤ c ∧ c ≤ 1000000) (x : Int) (y : Int) (hG : zB c m) (h0 : 0 ≤ x ∧ x ≤ 1 ∧ -2147483648 ≤ y ∧ y ≤ 2147483647) : ∀ (d : Nat), ∀ (z : Int), (4 - z).toNat = d → (0 ≤ z ∧ z ≤ 4) → (∀ q : Nat, (q : Int) < z → m.1 26 (4 * x.toNat + q) 7 ≠ y) →  wW (zK sc) zM79 2 [(0, .inr (.inr (.inl (some (19, 0))))), (1, .inl x), (2, .inl y), (3, .inl z)] [] n m (wr (fun vv n1 m1 => ∃ r : Option (Nat × Nat), vv = some (.inr (.inr (.inl r))) ∧ n = n1 ∧ m = m1 ∧ ((r = none ∧ (∀ q : Nat, q < 4 → m.1 26 (4 * x.toNat + q) 7 ≠ y)) ∨ ∃ e : Nat, r = some (26, e) ∧ (e < 8 ∧ 4 * x.toNat ≤ e ∧ e < 4 * x.toNat + 4 ∧ m.1 26 e 7 = y)))) := by
  intro d
  induction d using Nat.strongRecOn with
  | ind d ih =>
    intro z hd hi hf
    refine ww_go 2 (pc' := 4) (L' := [(0, .inr (.inr (.inl (some (19, 0))))), (1, .inl x), (2, .inl y), (3, .inl z)]) (st' := [.inl 4, .inl z]) (m' := m) (o := none) rfl trivial ?_
    refine ww_ic (t := 33) rfl rfl (by omega) (fun (h1 : 4 ≤ z) => ?_) (fun (h1 : ¬ (4 ≤ z)) => ?_)
    · show wW (zK sc) zM79 33 [(0, .inr (.inr (.inl (some (19, 0))))), (1, .inl x), (2, .inl y), (3, .inl z)] [] _ _ _
      refine ww_go 1 (pc' := 34) (L' := [(0, .inr (.inr (.inl (some (19, 0))))), (1, .inl x), (2, .inl y), (3, .inl z)]) (st' := [.inr (.inr (.inl none))]) (m' := m) (o := none) rfl trivial ?_
      exact ww_rA rfl rfl ⟨_, rfl, rfl, rfl, Or.inl ⟨rfl, by exact fun q hq => hf q (by omega)⟩⟩
    · show wW (zK sc) zM79 7 [(0, .inr (.inr (.inl (some (19, 0))))), (1, .inl x), (2, .inl y), (3, .inl z)] [] _ _ _
      refine ww_go 3 (pc' := 10) (L' := [(0, .inr (.inr (.inl (some (19, 0))))), (1, .inl x), (2, .inl y), (3, .inl z)]) (st' := [.inl z, .inl x, .inr (.inr (.inl (some (19, 0))))]) (m' := m) (o := none) rfl trivial ?_
      refine ww_call (vs := [.inr (.inr (.inl (some (19, 0)))), .inl x, .inl z]) (r := []) (p := 0 < 1) rfl rfl rfl rfl (show 0 < 1 from by omega) (yt87 (c := c) (by omega) x z hG (by omega)) ?_
      rintro _ _ _ ⟨r2, rfl, rfl, rfl, hr3⟩
      show wW (zK sc) zM79 13 [(0, .inr (.inr (.inl (some (19, 0))))), (1, .inl x), (2, .inl y), (3, .inl z)] [.inr (.inr (.inl (some (26, r2))))] _ _ _
      refine ww_call (vs := [.inr (.inr (.inl (some (26, r2))))]) (r := []) (p := r2 < 10) rfl rfl rfl rfl (show r2 < 10 from by omega) (yt155 (c := c) (by omega) r2 hG (by omega)) ?_
      rintro _ _ _ ⟨r4, rfl, rfl, rfl, hr5⟩
      show wW (zK sc) zM79 16 [(0, .inr (.inr (.inl (some (19, 0))))), (1, .inl x), (2, .inl y), (3, .inl z)] [.inl r4] _ _ _
      refine ww_go 1 (pc' := 17) (L' := [(0, .inr (.inr (.inl (some (19, 0))))), (1, .inl x), (2, .inl y), (3, .inl z)]) (st' := [.inl y, .inl r4]) (m' := m) (o := none) rfl trivial ?_
      refine ww_ic (t := 27) rfl rfl (by omega) (fun (h6 : r4 ≠ y) => ?_) (fun (h6 : ¬ (r4 ≠ y)) => ?_)
      · show wW (zK sc) zM79 27 [(0, .inr (.inr (.inl (some (19, 0))))), (1, .inl x), (2, .inl y), (3, .inl z)] [] _ _ _
        refine ww_go 2 (pc' := 2) (L' := [(3, .inl (z + 1)), (0, .inr (.inr (.inl (some (19, 0))))), (1, .inl x), (2, .inl y)]) (st' := []) (m' := m) (o := none) rfl trivial ?_
        refine ww_sub (L := [(0, .inr (.inr (.inl (some (19, 0))))), (1, .inl x), (2, .inl y), (3, .inl (z + 1))]) ⟨rfl, rfl, rfl, rfl, trivial⟩ rfl rfl ?_
        exact (ih _ (by omega)) (z + 1) rfl (by omega) (by exact fun q hq => (Decidable.em ((q : Int) < z)).elim (fun w => hf q w) (fun w => (by rw [show 4 * x.toNat + q = r2 from by omega]; omega)))
      · show wW (zK sc) zM79 20 [(0, .inr (.inr (.inl (some (19, 0))))), (1, .inl x), (2, .inl y), (3, .inl z)] [] _ _ _
        refine ww_go 3 (pc' := 23) (L' := [(0, .inr (.inr (.inl (some (19, 0))))), (1, .inl x), (2, .inl y), (3, .inl z)]) (st' := [.inl z, .inl x, .inr (.inr (.inl (some (19, 0))))]) (m' := m) (o := none) rfl trivial ?_
        refine ww_call (vs := [.inr (.inr (.inl (some (19, 0)))), .inl x, .inl z]) (r := []) (p := 0 < 1) rfl rfl rfl rfl (show 0 < 1 from by omega) (yt87 (c := c) (by omega) x z hG (by omega)) ?_
        rintro _ _ _ ⟨r7, rfl, rfl, rfl, hr8⟩
        show wW (zK sc) zM79 26 [(0, .inr (.inr (.inl (some (19, 0))))), (1, .inl x), (2, .inl y), (3, .inl z)] [.inr (.inr (.inl (some (26, r7))))] _ _ _
        exact ww_rA rfl rfl ⟨_, rfl, rfl, rfl, Or.inr ⟨_, rfl, by exact ⟨by omega, by omega, by omega, (by rw [show r7 = r2 from by omega]; omega)⟩⟩⟩
set_option maxRecDepth 8000 in
/-- Receiver.find -/
theorem yt79 {sc : xSc} {n : Nat × Nat} {m : wm} {c : Int} (hc : 0 ≤ c ∧ c ≤ 1000000) (x : Int) (y : Int) (hG : zB c m) (h0 : 0 ≤ x ∧ x ≤ 1 ∧ -2147483648 ≤ y ∧ y ≤ 2147483647) : wX (zK sc) 79 [.inr (.inr (.inl (some (19, 0)))), .inl x, .inl y] n m (wr (fun vv n1 m1 => ∃ r : Option (Nat × Nat), vv = some (.inr (.inr (.inl r))) ∧ n = n1 ∧ m = m1 ∧ ((r = none ∧ (∀ q : Nat, q < 4 → m.1 26 (4 * x.toNat + q) 7 ≠ y)) ∨ ∃ e : Nat, r = some (26, e) ∧ (e < 8 ∧ 4 * x.toNat ≤ e ∧ e < 4 * x.toNat + 4 ∧ m.1 26 e 7 = y)))) := by
  refine wX_of (N := zM79) rfl (Nat.le_of_ble_eq_true rfl) ?_
  show wW (zK sc) zM79 0 [(0, .inr (.inr (.inl (some (19, 0))))), (1, .inl x), (2, .inl y)] [] n m _
  refine ww_go 2 (pc' := 2) (L' := [(3, .inl 0), (0, .inr (.inr (.inl (some (19, 0))))), (1, .inl x), (2, .inl y)]) (st' := []) (m' := m) (o := none) rfl trivial ?_
  refine ww_sub (L := [(0, .inr (.inr (.inl (some (19, 0))))), (1, .inl x), (2, .inl y), (3, .inl 0)]) ⟨rfl, rfl, rfl, rfl, trivial⟩ rfl rfl ?_
  exact (yt79_l2 hc x y hG h0 _) 0 rfl (by omega) (by exact fun q hq => absurd hq (by omega))
set_option maxRecDepth 8000 in
theorem yt89_l9 {sc : xSc} {n : Nat × Nat} {m : wm} {c : Int} (hc : 0 ≤ c ∧ c ≤ 1000000) (x : Int) (hG : zB c m) (h0 : 0 ≤ x ∧ x ≤ 1) : ∀ (d : Nat), ∀ (u : Nat) (z : Int), (4 - z).toNat = d → (4 * x.toNat ≤ u ∧ u < 4 * x.toNat + 4 ∧ 1 ≤ z ∧ z ≤ 4) → (∀ q : Nat, (q : Int) < z → m.1 26 u 7 ≤ m.1 26 (4 * x.toNat + q) 7) →  wW (zK sc) zM89 9 [(0, .inr (.inr (.inl (some (19, 0))))), (1, .inl x), (2, .inr (.inr (.inl (some (26, u))))), (3, .inl z)] [] n m (wr (fun vv n1 m1 => ∃ r : Nat, vv = some (.inr (.inr (.inl (some (26, r))))) ∧ n = n1 ∧ m = m1 ∧ (r < 8 ∧ 4 * x.toNat ≤ r ∧ r < 4 * x.toNat + 4 ∧ ∀ q : Nat, q < 4 → m.1 26 r 7 ≤ m.1 26 (4 * x.toNat + q) 7))) := by
  intro d
  induction d using Nat.strongRecOn with
  | ind d ih =>
    intro u z hd hi hl
    refine ww_go 2 (pc' := 11) (L' := [(0, .inr (.inr (.inl (some (19, 0))))), (1, .inl x), (2, .inr (.inr (.inl (some (26, u))))), (3, .inl z)]) (st' := [.inl 4, .inl z]) (m' := m) (o := none) rfl trivial ?_
    refine ww_ic (t := 43) rfl rfl (by omega) (fun (h1 : 4 ≤ z) => ?_) (fun (h1 : ¬ (4 ≤ z)) => ?_)
    · show wW (zK sc) zM89 43 [(0, .inr (.inr (.inl (some (19, 0))))), (1, .inl x), (2, .inr (.inr (.inl (some (26, u))))), (3, .inl z)] [] _ _ _
      refine ww_go 1 (pc' := 44) (L' := [(0, .inr (.inr (.inl (some (19, 0))))), (1, .inl x), (2, .inr (.inr (.inl (some (26, u))))), (3, .inl z)]) (st' := [.inr (.inr (.inl (some (26, u))))]) (m' := m) (o := none) rfl trivial ?_
      exact ww_rA rfl rfl ⟨_, rfl, rfl, rfl, by exact ⟨by omega, by omega, by omega, fun q hq => hl q (by omega)⟩⟩
    · show wW (zK sc) zM89 14 [(0, .inr (.inr (.inl (some (19, 0))))), (1, .inl x), (2, .inr (.inr (.inl (some (26, u))))), (3, .inl z)] [] _ _ _
      refine ww_go 3 (pc' := 17) (L' := [(0, .inr (.inr (.inl (some (19, 0))))), (1, .inl x), (2, .inr (.inr (.inl (some (26, u))))), (3, .inl z)]) (st' := [.inl z, .inl x, .inr (.inr (.inl (some (19, 0))))]) (m' := m) (o := none) rfl trivial ?_
      refine ww_call (vs := [.inr (.inr (.inl (some (19, 0)))), .inl x, .inl z]) (r := []) (p := 0 < 1) rfl rfl rfl rfl (show 0 < 1 from by omega) (yt87 (c := c) (by omega) x z hG (by omega)) ?_
      rintro _ _ _ ⟨r2, rfl, rfl, rfl, hr3⟩
      show wW (zK sc) zM89 20 [(0, .inr (.inr (.inl (some (19, 0))))), (1, .inl x), (2, .inr (.inr (.inl (some (26, u))))), (3, .inl z)] [.inr (.inr (.inl (some (26, r2))))] _ _ _
      refine ww_call (vs := [.inr (.inr (.inl (some (26, r2))))]) (r := []) (p := r2 < 10) rfl rfl rfl rfl (show r2 < 10 from by omega) (yt155 (c := c) (by omega) r2 hG (by omega)) ?_
      rintro _ _ _ ⟨r4, rfl, rfl, rfl, hr5⟩
      show wW (zK sc) zM89 23 [(0, .inr (.inr (.inl (some (19, 0))))), (1, .inl x), (2, .inr (.inr (.inl (some (26, u))))), (3, .inl z)] [.inl r4] _ _ _
      refine ww_go 1 (pc' := 24) (L' := [(0, .inr (.inr (.inl (some (19, 0))))), (1, .inl x), (2, .inr (.inr (.inl (some (26, u))))), (3, .inl z)]) (st' := [.inr (.inr (.inl (some (26, u)))), .inl r4]) (m' := m) (o := none) rfl trivial ?_
      refine ww_call (vs := [.inr (.inr (.inl (some (26, u))))]) (r := [.inl r4]) (p := u < 10) rfl rfl rfl rfl (show u < 10 from by omega) (yt155 (c := c) (by omega) u hG (by omega)) ?_
      rintro _ _ _ ⟨r6, rfl, rfl, rfl, hr7⟩
      show wW (zK sc) zM89 27 [(0, .inr (.inr (.inl (some (19, 0))))), (1, .inl x), (2, .inr (.inr (.inl (some (26, u))))), (3, .inl z)] [.inl r6, .inl r4] _ _ _
      refine ww_ic (t := 37) rfl rfl (by omega) (fun (h8 : r6 ≤ r4) => ?_) (fun (h8 : ¬ (r6 ≤ r4)) => ?_)
      · show wW (zK sc) zM89 37 [(0, .inr (.inr (.inl (some (19, 0))))), (1, .inl x), (2, .inr (.inr (.inl (some (26, u))))), (3, .inl z)] [] _ _ _
        refine ww_go 2 (pc' := 9) (L' := [(3, .inl (z + 1)), (0, .inr (.inr (.inl (some (19, 0))))), (1, .inl x), (2, .inr (.inr (.inl (some (26, u)))))]) (st' := []) (m' := m) (o := none) rfl trivial ?_
        refine ww_sub (L := [(0, .inr (.inr (.inl (some (19, 0))))), (1, .inl x), (2, .inr (.inr (.inl (some (26, u))))), (3, .inl (z + 1))]) ⟨rfl, rfl, rfl, rfl, trivial⟩ rfl rfl ?_
        exact (ih _ (by omega)) u (z + 1) rfl (by omega) (by exact fun q hq => (Decidable.em ((q : Int) < z)).elim (fun w => hl q w) (fun w => (by rw [show 4 * x.toNat + q = r2 from by omega]; omega)))
      · show wW (zK sc) zM89 30 [(0, .inr (.inr (.inl (some (19, 0))))), (1, .inl x), (2, .inr (.inr (.inl (some (26, u))))), (3, .inl z)] [] _ _ _
        refine ww_go 3 (pc' := 33) (L' := [(0, .inr (.inr (.inl (some (19, 0))))), (1, .inl x), (2, .inr (.inr (.inl (some (26, u))))), (3, .inl z)]) (st' := [.inl z, .inl x, .inr (.inr (.inl (some (19, 0))))]) (m' := m) (o := none) rfl trivial ?_
        refine ww_call (vs := [.inr (.inr (.inl (some (19, 0)))), .inl x, .inl z]) (r := []) (p := 0 < 1) rfl rfl rfl rfl (show 0 < 1 from by omega) (yt87 (c := c) (by omega) x z hG (by omega)) ?_
        rintro _ _ _ ⟨r9, rfl, rfl, rfl, hr10⟩
        show wW (zK sc) zM89 36 [(0, .inr (.inr (.inl (some (19, 0))))), (1, .inl x), (2, .inr (.inr (.inl (some (26, u))))), (3, .inl z)] [.inr (.inr (.inl (some (26, r9))))] _ _ _
        refine ww_go 3 (pc' := 9) (L' := [(3, .inl (z + 1)), (2, .inr (.inr (.inl (some (26, r9))))), (0, .inr (.inr (.inl (some (19, 0))))), (1, .inl x)]) (st' := []) (m' := m) (o := none) rfl trivial ?_
        refine ww_sub (L := [(0, .inr (.inr (.inl (some (19, 0))))), (1, .inl x), (2, .inr (.inr (.inl (some (26, r9))))), (3, .inl (z + 1))]) ⟨rfl, rfl, rfl, rfl, trivial⟩ rfl rfl ?_
        exact (ih _ (by omega)) r9 (z + 1) rfl (by omega) (by exact fun q hq => (by rw [show r9 = r2 from by omega]; exact (Decidable.em ((q : Int) < z)).elim (fun w => (by have z9 := hl q w; omega)) (fun w => (by rw [show 4 * x.toNat + q = r2 from by omega]; exact Int.le_refl _))))
set_option maxRecDepth 8000 in
/-- Receiver.leastOf -/
theorem yt89 {sc : xSc} {n : Nat × Nat} {m : wm} {c : Int} (hc : 0 ≤ c ∧ c ≤ 1000000) (x : Int) (hG : zB c m) (h0 : 0 ≤ x ∧ x ≤ 1) : wX (zK sc) 89 [.inr (.inr (.inl (some (19, 0)))), .inl x] n m (wr (fun vv n1 m1 => ∃ r : Nat, vv = some (.inr (.inr (.inl (some (26, r))))) ∧ n = n1 ∧ m = m1 ∧ (r < 8 ∧ 4 * x.toNat ≤ r ∧ r < 4 * x.toNat + 4 ∧ ∀ q : Nat, q < 4 → m.1 26 r 7 ≤ m.1 26 (4 * x.toNat + q) 7))) := by
  refine wX_of (N := zM89) rfl (Nat.le_of_ble_eq_true rfl) ?_
  show wW (zK sc) zM89 0 [(0, .inr (.inr (.inl (some (19, 0))))), (1, .inl x)] [] n m _
  refine ww_go 3 (pc' := 3) (L' := [(0, .inr (.inr (.inl (some (19, 0))))), (1, .inl x)]) (st' := [.inl 0, .inl x, .inr (.inr (.inl (some (19, 0))))]) (m' := m) (o := none) rfl trivial ?_
  refine ww_call (vs := [.inr (.inr (.inl (some (19, 0)))), .inl x, .inl 0]) (r := []) (p := 0 < 1) rfl rfl rfl rfl (show 0 < 1 from by omega) (yt87 (c := c) (by omega) x 0 hG (by omega)) ?_
  rintro _ _ _ ⟨r1, rfl, rfl, rfl, hr2⟩
  show wW (zK sc) zM89 6 [(0, .inr (.inr (.inl (some (19, 0))))), (1, .inl x)] [.inr (.inr (.inl (some (26, r1))))] _ _ _
  refine ww_go 3 (pc' := 9) (L' := [(3, .inl 1), (2, .inr (.inr (.inl (some (26, r1))))), (0, .inr (.inr (.inl (some (19, 0))))), (1, .inl x)]) (st' := []) (m' := m) (o := none) rfl trivial ?_
  refine ww_sub (L := [(0, .inr (.inr (.inl (some (19, 0))))), (1, .inl x), (2, .inr (.inr (.inl (some (26, r1))))), (3, .inl 1)]) ⟨rfl, rfl, rfl, rfl, trivial⟩ rfl rfl ?_
  exact (yt89_l9 hc x hG h0 _) r1 1 rfl (by omega) (by exact fun q hq => (by rw [show 4 * x.toNat + q = r1 from by omega]; exact Int.le_refl _))
set_option maxRecDepth 8000 in
theorem yt81_l4 {sc : xSc} {n : Nat × Nat} {m : wm} {c : Int} (hc : 0 ≤ c ∧ c ≤ 1000000) (x : Int) (hG : zB c m) (h0 : 0 ≤ x ∧ x ≤ 1) : ∀ (d : Nat), ∀ (y : Int) (z : Int), (4 - z).toNat = d → (0 ≤ y ∧ y ≤ 65535 ∧ 0 ≤ z ∧ z ≤ 4) → ((∀ q : Nat, (q : Int) < z → m.1 26 (4 * x.toNat + q) 7 ≤ y) ∧ zGx m x.toNat y) →  wW (zK sc) zM81 4 [(0, .inr (.inr (.inl (some (19, 0))))), (1, .inl x), (2, .inl y), (3, .inl z)] [] n m (wr (fun vv n1 m1 => ∃ r : Int, vv = some (.inl r) ∧ n = n1 ∧ m = m1 ∧ ((0 ≤ r ∧ r ≤ 65535) ∧ zGt m x.toNat r))) := by
  intro d
  induction d using Nat.strongRecOn with
  | ind d ih =>
    intro y z hd hi hg
    refine ww_go 2 (pc' := 6) (L' := [(0, .inr (.inr (.inl (some (19, 0))))), (1, .inl x), (2, .inl y), (3, .inl z)]) (st' := [.inl 4, .inl z]) (m' := m) (o := none) rfl trivial ?_
    refine ww_ic (t := 29) rfl rfl (by omega) (fun (h1 : 4 ≤ z) => ?_) (fun (h1 : ¬ (4 ≤ z)) => ?_)
    · show wW (zK sc) zM81 29 [(0, .inr (.inr (.inl (some (19, 0))))), (1, .inl x), (2, .inl y), (3, .inl z)] [] _ _ _
      refine ww_go 1 (pc' := 30) (L' := [(0, .inr (.inr (.inl (some (19, 0))))), (1, .inl x), (2, .inl y), (3, .inl z)]) (st' := [.inl y]) (m' := m) (o := none) rfl trivial ?_
      exact ww_rI rfl rfl ⟨_, rfl, rfl, rfl, by exact ⟨by omega, fun q hq => hg.1 q (by omega), hg.2⟩⟩
    · show wW (zK sc) zM81 9 [(0, .inr (.inr (.inl (some (19, 0))))), (1, .inl x), (2, .inl y), (3, .inl z)] [] _ _ _
      refine ww_go 4 (pc' := 13) (L' := [(0, .inr (.inr (.inl (some (19, 0))))), (1, .inl x), (2, .inl y), (3, .inl z)]) (st' := [.inl z, .inl x, .inr (.inr (.inl (some (19, 0)))), .inl y]) (m' := m) (o := none) rfl trivial ?_
      refine ww_call (vs := [.inr (.inr (.inl (some (19, 0)))), .inl x, .inl z]) (r := [.inl y]) (p := 0 < 1) rfl rfl rfl rfl (show 0 < 1 from by omega) (yt87 (c := c) (by omega) x z hG (by omega)) ?_
      rintro _ _ _ ⟨r2, rfl, rfl, rfl, hr3⟩
      show wW (zK sc) zM81 16 [(0, .inr (.inr (.inl (some (19, 0))))), (1, .inl x), (2, .inl y), (3, .inl z)] [.inr (.inr (.inl (some (26, r2)))), .inl y] _ _ _
      refine ww_call (vs := [.inr (.inr (.inl (some (26, r2))))]) (r := [.inl y]) (p := r2 < 10) rfl rfl rfl rfl (show r2 < 10 from by omega) (yt155 (c := c) (by omega) r2 hG (by omega)) ?_
      rintro _ _ _ ⟨r4, rfl, rfl, rfl, hr5⟩
      show wW (zK sc) zM81 19 [(0, .inr (.inr (.inl (some (19, 0))))), (1, .inl x), (2, .inl y), (3, .inl z)] [.inl r4, .inl y] _ _ _
      refine ww_go 4 (pc' := 4) (L' := [(3, .inl (z + 1)), (2, .inl (max y r4)), (0, .inr (.inr (.inl (some (19, 0))))), (1, .inl x)]) (st' := []) (m' := m) (o := some ((-2147483648 ≤ y ∧ y ≤ 2147483647 ∧ -2147483648 ≤ r4 ∧ r4 ≤ 2147483647))) rfl (show (-2147483648 ≤ y ∧ y ≤ 2147483647 ∧ -2147483648 ≤ r4 ∧ r4 ≤ 2147483647) from by omega) ?_
      refine ww_sub (L := [(0, .inr (.inr (.inl (some (19, 0))))), (1, .inl x), (2, .inl (max y r4)), (3, .inl (z + 1))]) ⟨rfl, rfl, rfl, rfl, trivial⟩ rfl rfl ?_
      exact (ih _ (by omega)) (max y r4) (z + 1) rfl (by omega) (by exact ⟨fun q hq => (Decidable.em ((q : Int) < z)).elim (fun w => (by have z9 := hg.1 q w; omega)) (fun w => (by rw [show 4 * x.toNat + q = r2 from by omega]; omega)), (Decidable.em (max y r4 = y)).elim (fun w => (by rw [w]; exact hg.2)) (fun w => zGx_i (q := z.toNat) (by omega) (by rw [show 4 * x.toNat + z.toNat = r2 from by omega]; omega))⟩)
set_option maxRecDepth 8000 in
/-- Receiver.greatestOf -/
theorem yt81 {sc : xSc} {n : Nat × Nat} {m : wm} {c : Int} (hc : 0 ≤ c ∧ c ≤ 1000000) (x : Int) (hG : zB c m) (h0 : 0 ≤ x ∧ x ≤ 1) : wX (zK sc) 81 [.inr (.inr (.inl (some (19, 0)))), .inl x] n m (wr (fun vv n1 m1 => ∃ r : Int, vv = some (.inl r) ∧ n = n1 ∧ m = m1 ∧ ((0 ≤ r ∧ r ≤ 65535) ∧ zGt m x.toNat r))) := by
  refine wX_of (N := zM81) rfl (Nat.le_of_ble_eq_true rfl) ?_
  show wW (zK sc) zM81 0 [(0, .inr (.inr (.inl (some (19, 0))))), (1, .inl x)] [] n m _
  refine ww_go 4 (pc' := 4) (L' := [(3, .inl 0), (2, .inl 0), (0, .inr (.inr (.inl (some (19, 0))))), (1, .inl x)]) (st' := []) (m' := m) (o := none) rfl trivial ?_
  refine ww_sub (L := [(0, .inr (.inr (.inl (some (19, 0))))), (1, .inl x), (2, .inl 0), (3, .inl 0)]) ⟨rfl, rfl, rfl, rfl, trivial⟩ rfl rfl ?_
  exact (yt81_l4 hc x hG h0 _) 0 0 rfl (by omega) (by exact ⟨fun q hq => absurd hq (by omega), Or.inl rfl⟩)
set_option maxRecDepth 8000 in
/-- Receiver.noteLife -/
theorem yt98 {sc : xSc} {n : Nat × Nat} {m0 : wm} {c : Int} (hc : 0 ≤ c ∧ c ≤ 1000000) (x : Int) (hG : zB c m0) (h0 : 0 ≤ x ∧ x ≤ 255) : wX (zK sc) 98 [.inr (.inr (.inl (some (19, 0)))), .inl x] n m0 (wr (fun vv n1 m1 => vv = none ∧ n = n1 ∧ zB c m1 ∧ zfr (fun k i j => (k = 22 ∧ j = 3) ∨ (k = 19 ∧ j = 5)) m0 m1 ∧ ((m0.1 19 0 5 < x ∧ m1.1 19 0 5 = x ∧ m1.1 22 0 3 = 0) ∨ (x ≤ m0.1 19 0 5 ∧ m0 = m1)))) := by
  refine wX_of (N := zM98) rfl (Nat.le_of_ble_eq_true rfl) ?_
  show wW (zK sc) zM98 0 [(0, .inr (.inr (.inl (some (19, 0))))), (1, .inl x)] [] n m0 _
  have hF : zfr (fun k i j => (k = 22 ∧ j = 3) ∨ (k = 19 ∧ j = 5)) m0 m0 := zfr_rf
  have b1 : 0 ≤ m0.1 19 0 5 ∧ m0.1 19 0 5 ≤ 255 := hG.1 19 _ rfl _ _
  refine ww_go 3 (pc' := 5) (L' := [(0, .inr (.inr (.inl (some (19, 0))))), (1, .inl x)]) (st' := [.inl (m0.1 19 0 5), .inl x]) (m' := m0) (o := some ((0 < 1))) rfl (show (0 < 1) from by omega) ?_
  refine ww_ic (t := 20) rfl rfl (by omega) (fun (h2 : x ≤ m0.1 19 0 5) => ?_) (fun (h2 : ¬ (x ≤ m0.1 19 0 5)) => ?_)
  · show wW (zK sc) zM98 20 [(0, .inr (.inr (.inl (some (19, 0))))), (1, .inl x)] [] _ _ _
    exact ww_rV rfl rfl ⟨rfl, rfl, zB_mono hG (by omega), hF, Or.inr ⟨by omega, rfl⟩⟩
  · show wW (zK sc) zM98 8 [(0, .inr (.inr (.inl (some (19, 0))))), (1, .inl x)] [] _ _ _
    refine ww_go 3 (pc' := 13) (L' := [(0, .inr (.inr (.inl (some (19, 0))))), (1, .inl x)]) (st' := []) (m' := wuI m0 19 0 5 x) (o := some ((0 < 1))) rfl (show (0 < 1) from by omega) ?_
    obtain ⟨m3, hm3⟩ : ∃ zq9 : wm, zq9 = wuI m0 19 0 5 x := ⟨_, rfl⟩
    rw [← hm3]
    have hGm3 : zB c m3 := by rw [hm3]; exact zB_wI rfl (show 0 ≤ x ∧ x ≤ 255 from by omega) hG
    have hFm3 : zfr (fun k i j => (k = 22 ∧ j = 3) ∨ (k = 19 ∧ j = 5)) m0 m3 := by rw [hm3]; exact zfr_wI hF (show (19 = 22 ∧ 5 = 3) ∨ (19 = 19 ∧ 5 = 5) from Or.inr (⟨rfl, rfl⟩))
    have s4 : m3.1 19 0 5 = x := by rw [hm3]; exact wuI_self
    refine ww_go 2 (pc' := 17) (L' := [(0, .inr (.inr (.inl (some (19, 0))))), (1, .inl x)]) (st' := [.inr (.inr (.inl (some (22, 0))))]) (m' := m3) (o := some ((0 < 1))) rfl (show (0 < 1) from by omega) ?_
    refine ww_call (vs := [.inr (.inr (.inl (some (22, 0))))]) (r := []) (p := 0 < 1) rfl rfl rfl rfl (show 0 < 1 from by omega) (yt107 (c := c) (by omega) hGm3) ?_
    rintro _ _ m7 ⟨rfl, rfl, hGm7, hEm7, hr6⟩
    have hFm7 : zfr (fun k i j => (k = 22 ∧ j = 3) ∨ (k = 19 ∧ j = 5)) m0 m7 := zfr_tr hFm3 hEm7 (fun k i j z => Or.inl z)
    have w8 : m7.1 19 0 5 = m3.1 19 0 5 := (hEm7 19 0 5 (show ¬ ((19 = 22 ∧ 5 = 3)) from by omega)).1
    show wW (zK sc) zM98 20 [(0, .inr (.inr (.inl (some (19, 0))))), (1, .inl x)] [] _ _ _
    exact ww_rV rfl rfl ⟨rfl, rfl, zB_mono hGm7 (by omega), hFm7, Or.inl ⟨by omega, by omega, by omega⟩⟩
set_option maxRecDepth 8000 in
/-- Receiver.canBe -/
theorem yt76 {sc : xSc} {n : Nat × Nat} {m : wm} {c : Int} (hc : 0 ≤ c ∧ c ≤ 1000000) (s : Nat) (hG : zB c m) (h0 : s < 101) : wX (zK sc) 76 [.inr (.inr (.inl (some (19, 0)))), .inr (.inr (.inl (some (1, s))))] n m (wr (fun vv n1 m1 => ∃ r : Int, vv = some (.inl r) ∧ n = n1 ∧ m = m1 ∧ ((r = 1 ∧ zCb m s) ∨ (r = 0 ∧ ¬ zCb m s)))) := by
  refine wX_of (N := zM76) rfl (Nat.le_of_ble_eq_true rfl) ?_
  show wW (zK sc) zM76 0 [(0, .inr (.inr (.inl (some (19, 0))))), (1, .inr (.inr (.inl (some (1, s)))))] [] n m _
  have z1 := zBat_rg hG s 1
  have z2 := zBat_rg hG s 2
  have z3 := zBat_rg hG s 3
  have z4 := zBat_rg hG s 4
  have z5 := zBat_rg hG s 5
  have z6 := zBat_rg hG s 6
  have z7 := zBat_rg hG s 7
  refine ww_go 2 (pc' := 2) (L' := [(0, .inr (.inr (.inl (some (19, 0))))), (1, .inr (.inr (.inl (some (1, s)))))]) (st' := [.inl 1, .inr (.inr (.inl (some (1, s))))]) (m' := m) (o := none) rfl trivial ?_
  refine ww_call (vs := [.inr (.inr (.inl (some (1, s)))), .inl 1]) (r := []) (p := s < 171) rfl rfl rfl rfl (show s < 171 from by omega) (zs28 (c := c) (by omega) 1 s hG (by omega)) ?_
  rintro _ _ _ ⟨r1, rfl, rfl, rfl, hr2⟩
  show wW (zK sc) zM76 5 [(0, .inr (.inr (.inl (some (19, 0))))), (1, .inr (.inr (.inl (some (1, s)))))] [.inl r1] _ _ _
  refine ww_go 4 (pc' := 9) (L' := [(2, .inl r1), (0, .inr (.inr (.inl (some (19, 0))))), (1, .inr (.inr (.inl (some (1, s)))))]) (st' := [.inl 2, .inl 2, .inr (.inr (.inl (some (1, s))))]) (m' := m) (o := none) rfl trivial ?_
  refine ww_call (vs := [.inr (.inr (.inl (some (1, s)))), .inl 2, .inl 2]) (r := []) (p := s < 171) rfl rfl rfl rfl (show s < 171 from by omega) (zs36 (c := c) (by omega) 2 2 s hG (by omega)) ?_
  rintro _ _ _ ⟨r3, rfl, rfl, rfl, hr4⟩
  have z5 := (hr4).1 rfl
  rw [show (2 : Int) + 1 = 3 from rfl] at z5
  show wW (zK sc) zM76 12 [(2, .inl r1), (0, .inr (.inr (.inl (some (19, 0))))), (1, .inr (.inr (.inl (some (1, s)))))] [.inr (.inl r3)] _ _ _
  have t6 := wl2i_rg r3
  refine ww_go 4 (pc' := 17) (L' := [(3, .inl (wl2i r3)), (2, .inl r1), (0, .inr (.inr (.inl (some (19, 0))))), (1, .inr (.inr (.inl (some (1, s)))))]) (st' := [.inl 7, .inr (.inr (.inl (some (1, s))))]) (m' := m) (o := none) rfl trivial ?_
  refine ww_call (vs := [.inr (.inr (.inl (some (1, s)))), .inl 7]) (r := []) (p := s < 171) rfl rfl rfl rfl (show s < 171 from by omega) (zs28 (c := c) (by omega) 7 s hG (by omega)) ?_
  rintro _ _ _ ⟨r7, rfl, rfl, rfl, hr8⟩
  show wW (zK sc) zM76 20 [(3, .inl (wl2i r3)), (2, .inl r1), (0, .inr (.inr (.inl (some (19, 0))))), (1, .inr (.inr (.inl (some (1, s)))))] [.inl r7] _ _ _
  refine ww_go 3 (pc' := 24) (L' := [(4, .inl r7), (3, .inl (wl2i r3)), (2, .inl r1), (0, .inr (.inr (.inl (some (19, 0))))), (1, .inr (.inr (.inl (some (1, s)))))]) (st' := [.inl 5, .inr (.inr (.inl (some (1, s))))]) (m' := m) (o := none) rfl trivial ?_
  refine ww_call (vs := [.inr (.inr (.inl (some (1, s)))), .inl 5]) (r := []) (p := s < 171) rfl rfl rfl rfl (show s < 171 from by omega) (zs28 (c := c) (by omega) 5 s hG (by omega)) ?_
  rintro _ _ _ ⟨r9, rfl, rfl, rfl, hr10⟩
  show wW (zK sc) zM76 27 [(4, .inl r7), (3, .inl (wl2i r3)), (2, .inl r1), (0, .inr (.inr (.inl (some (19, 0))))), (1, .inr (.inr (.inl (some (1, s)))))] [.inl r9] _ _ _
  refine ww_go 3 (pc' := 31) (L' := [(5, .inl r9), (4, .inl r7), (3, .inl (wl2i r3)), (2, .inl r1), (0, .inr (.inr (.inl (some (19, 0))))), (1, .inr (.inr (.inl (some (1, s)))))]) (st' := [.inl 2, .inl r1]) (m' := m) (o := none) rfl trivial ?_
  refine ww_ic (t := 97) rfl rfl (by omega) (fun (h11 : 2 ≤ r1) => ?_) (fun (h11 : ¬ (2 ≤ r1)) => ?_)
  · show wW (zK sc) zM76 97 [(5, .inl r9), (4, .inl r7), (3, .inl (wl2i r3)), (2, .inl r1), (0, .inr (.inr (.inl (some (19, 0))))), (1, .inr (.inr (.inl (some (1, s)))))] [] _ _ _
    refine ww_go 1 (pc' := 98) (L' := [(5, .inl r9), (4, .inl r7), (3, .inl (wl2i r3)), (2, .inl r1), (0, .inr (.inr (.inl (some (19, 0))))), (1, .inr (.inr (.inl (some (1, s)))))]) (st' := [.inl 0]) (m' := m) (o := none) rfl trivial ?_
    exact ww_rB rfl rfl (by omega) ⟨_, rfl, rfl, rfl, by (exact Or.inr ⟨rfl, fun zz => (by obtain ⟨a1, a2, a3, a4, a5, a6, q9, hq9, hle9⟩ := zz; omega)⟩)⟩
  · show wW (zK sc) zM76 34 [(5, .inl r9), (4, .inl r7), (3, .inl (wl2i r3)), (2, .inl r1), (0, .inr (.inr (.inl (some (19, 0))))), (1, .inr (.inr (.inl (some (1, s)))))] [] _ _ _
    refine ww_go 1 (pc' := 35) (L' := [(5, .inl r9), (4, .inl r7), (3, .inl (wl2i r3)), (2, .inl r1), (0, .inr (.inr (.inl (some (19, 0))))), (1, .inr (.inr (.inl (some (1, s)))))]) (st' := [.inl (wl2i r3)]) (m' := m) (o := none) rfl trivial ?_
    refine ww_if (t := 97) rfl rfl (by omega) (fun (h12 : wl2i r3 = 0) => ?_) (fun (h12 : ¬ (wl2i r3 = 0)) => ?_)
    · show wW (zK sc) zM76 97 [(5, .inl r9), (4, .inl r7), (3, .inl (wl2i r3)), (2, .inl r1), (0, .inr (.inr (.inl (some (19, 0))))), (1, .inr (.inr (.inl (some (1, s)))))] [] _ _ _
      refine ww_go 1 (pc' := 98) (L' := [(5, .inl r9), (4, .inl r7), (3, .inl (wl2i r3)), (2, .inl r1), (0, .inr (.inr (.inl (some (19, 0))))), (1, .inr (.inr (.inl (some (1, s)))))]) (st' := [.inl 0]) (m' := m) (o := none) rfl trivial ?_
      exact ww_rB rfl rfl (by omega) ⟨_, rfl, rfl, rfl, by (exact Or.inr ⟨rfl, fun zz => (by obtain ⟨a1, a2, a3, a4, a5, a6, q9, hq9, hle9⟩ := zz; omega)⟩)⟩
    · show wW (zK sc) zM76 38 [(5, .inl r9), (4, .inl r7), (3, .inl (wl2i r3)), (2, .inl r1), (0, .inr (.inr (.inl (some (19, 0))))), (1, .inr (.inr (.inl (some (1, s)))))] [] _ _ _
      refine ww_go 2 (pc' := 40) (L' := [(5, .inl r9), (4, .inl r7), (3, .inl (wl2i r3)), (2, .inl r1), (0, .inr (.inr (.inl (some (19, 0))))), (1, .inr (.inr (.inl (some (1, s)))))]) (st' := [.inl 4, .inr (.inr (.inl (some (1, s))))]) (m' := m) (o := none) rfl trivial ?_
      refine ww_call (vs := [.inr (.inr (.inl (some (1, s)))), .inl 4]) (r := []) (p := s < 171) rfl rfl rfl rfl (show s < 171 from by omega) (zs28 (c := c) (by omega) 4 s hG (by omega)) ?_
      rintro _ _ _ ⟨r13, rfl, rfl, rfl, hr14⟩
      show wW (zK sc) zM76 43 [(5, .inl r9), (4, .inl r7), (3, .inl (wl2i r3)), (2, .inl r1), (0, .inr (.inr (.inl (some (19, 0))))), (1, .inr (.inr (.inl (some (1, s)))))] [.inl r13] _ _ _
      refine ww_go 1 (pc' := 45) (L' := [(5, .inl r9), (4, .inl r7), (3, .inl (wl2i r3)), (2, .inl r1), (0, .inr (.inr (.inl (some (19, 0))))), (1, .inr (.inr (.inl (some (1, s)))))]) (st' := [.inl 7, .inl r13]) (m' := m) (o := none) rfl trivial ?_
      refine ww_ic (t := 97) rfl rfl (by omega) (fun (h15 : 7 ≤ r13) => ?_) (fun (h15 : ¬ (7 ≤ r13)) => ?_)
      · show wW (zK sc) zM76 97 [(5, .inl r9), (4, .inl r7), (3, .inl (wl2i r3)), (2, .inl r1), (0, .inr (.inr (.inl (some (19, 0))))), (1, .inr (.inr (.inl (some (1, s)))))] [] _ _ _
        refine ww_go 1 (pc' := 98) (L' := [(5, .inl r9), (4, .inl r7), (3, .inl (wl2i r3)), (2, .inl r1), (0, .inr (.inr (.inl (some (19, 0))))), (1, .inr (.inr (.inl (some (1, s)))))]) (st' := [.inl 0]) (m' := m) (o := none) rfl trivial ?_
        exact ww_rB rfl rfl (by omega) ⟨_, rfl, rfl, rfl, by (exact Or.inr ⟨rfl, fun zz => (by obtain ⟨a1, a2, a3, a4, a5, a6, q9, hq9, hle9⟩ := zz; omega)⟩)⟩
      · show wW (zK sc) zM76 48 [(5, .inl r9), (4, .inl r7), (3, .inl (wl2i r3)), (2, .inl r1), (0, .inr (.inr (.inl (some (19, 0))))), (1, .inr (.inr (.inl (some (1, s)))))] [] _ _ _
        refine ww_go 2 (pc' := 52) (L' := [(5, .inl r9), (4, .inl r7), (3, .inl (wl2i r3)), (2, .inl r1), (0, .inr (.inr (.inl (some (19, 0))))), (1, .inr (.inr (.inl (some (1, s)))))]) (st' := [.inl 104, .inl r7]) (m' := m) (o := none) rfl trivial ?_
        refine ww_ic (t := 97) rfl rfl (by omega) (fun (h16 : 104 < r7) => ?_) (fun (h16 : ¬ (104 < r7)) => ?_)
        · show wW (zK sc) zM76 97 [(5, .inl r9), (4, .inl r7), (3, .inl (wl2i r3)), (2, .inl r1), (0, .inr (.inr (.inl (some (19, 0))))), (1, .inr (.inr (.inl (some (1, s)))))] [] _ _ _
          refine ww_go 1 (pc' := 98) (L' := [(5, .inl r9), (4, .inl r7), (3, .inl (wl2i r3)), (2, .inl r1), (0, .inr (.inr (.inl (some (19, 0))))), (1, .inr (.inr (.inl (some (1, s)))))]) (st' := [.inl 0]) (m' := m) (o := none) rfl trivial ?_
          exact ww_rB rfl rfl (by omega) ⟨_, rfl, rfl, rfl, by (exact Or.inr ⟨rfl, fun zz => (by obtain ⟨a1, a2, a3, a4, a5, a6, q9, hq9, hle9⟩ := zz; omega)⟩)⟩
        · show wW (zK sc) zM76 55 [(5, .inl r9), (4, .inl r7), (3, .inl (wl2i r3)), (2, .inl r1), (0, .inr (.inr (.inl (some (19, 0))))), (1, .inr (.inr (.inl (some (1, s)))))] [] _ _ _
          refine ww_go 2 (pc' := 59) (L' := [(5, .inl r9), (4, .inl r7), (3, .inl (wl2i r3)), (2, .inl r1), (0, .inr (.inr (.inl (some (19, 0))))), (1, .inr (.inr (.inl (some (1, s)))))]) (st' := [.inl r7, .inl r9]) (m' := m) (o := none) rfl trivial ?_
          refine ww_call (vs := [.inl r7]) (r := [.inl r9]) (p := True) rfl rfl rfl rfl trivial (zs42 r7 (by omega)) ?_
          rintro _ _ _ ⟨r17, rfl, rfl, rfl, hr18⟩
          show wW (zK sc) zM76 62 [(5, .inl r9), (4, .inl r7), (3, .inl (wl2i r3)), (2, .inl r1), (0, .inr (.inr (.inl (some (19, 0))))), (1, .inr (.inr (.inl (some (1, s)))))] [.inl r17, .inl r9] _ _ _
          refine ww_ic (t := 97) rfl rfl (by omega) (fun (h19 : r17 ≤ r9) => ?_) (fun (h19 : ¬ (r17 ≤ r9)) => ?_)
          · show wW (zK sc) zM76 97 [(5, .inl r9), (4, .inl r7), (3, .inl (wl2i r3)), (2, .inl r1), (0, .inr (.inr (.inl (some (19, 0))))), (1, .inr (.inr (.inl (some (1, s)))))] [] _ _ _
            refine ww_go 1 (pc' := 98) (L' := [(5, .inl r9), (4, .inl r7), (3, .inl (wl2i r3)), (2, .inl r1), (0, .inr (.inr (.inl (some (19, 0))))), (1, .inr (.inr (.inl (some (1, s)))))]) (st' := [.inl 0]) (m' := m) (o := none) rfl trivial ?_
            exact ww_rB rfl rfl (by omega) ⟨_, rfl, rfl, rfl, by (exact Or.inr ⟨rfl, fun zz => (by obtain ⟨a1, a2, a3, a4, a5, a6, q9, hq9, hle9⟩ := zz; omega)⟩)⟩
          · show wW (zK sc) zM76 65 [(5, .inl r9), (4, .inl r7), (3, .inl (wl2i r3)), (2, .inl r1), (0, .inr (.inr (.inl (some (19, 0))))), (1, .inr (.inr (.inl (some (1, s)))))] [] _ _ _
            refine ww_go 2 (pc' := 68) (L' := [(5, .inl r9), (4, .inl r7), (3, .inl (wl2i r3)), (2, .inl r1), (0, .inr (.inr (.inl (some (19, 0))))), (1, .inr (.inr (.inl (some (1, s)))))]) (st' := [.inl 6, .inr (.inr (.inl (some (1, s))))]) (m' := m) (o := none) rfl trivial ?_
            refine ww_call (vs := [.inr (.inr (.inl (some (1, s)))), .inl 6]) (r := []) (p := s < 171) rfl rfl rfl rfl (show s < 171 from by omega) (zs28 (c := c) (by omega) 6 s hG (by omega)) ?_
            rintro _ _ _ ⟨r20, rfl, rfl, rfl, hr21⟩
            show wW (zK sc) zM76 71 [(5, .inl r9), (4, .inl r7), (3, .inl (wl2i r3)), (2, .inl r1), (0, .inr (.inr (.inl (some (19, 0))))), (1, .inr (.inr (.inl (some (1, s)))))] [.inl r20] _ _ _
            refine ww_go 2 (pc' := 75) (L' := [(5, .inl r9), (4, .inl r7), (3, .inl (wl2i r3)), (2, .inl r1), (0, .inr (.inr (.inl (some (19, 0))))), (1, .inr (.inr (.inl (some (1, s)))))]) (st' := [.inl r9, .inl r7, .inl r20]) (m' := m) (o := none) rfl trivial ?_
            refine ww_call (vs := [.inl r7, .inl r9]) (r := [.inl r20]) (p := True) rfl rfl rfl rfl trivial (zs44 r7 r9 (by omega)) ?_
            rintro _ _ _ ⟨r22, rfl, rfl, rfl, hr23⟩
            show wW (zK sc) zM76 78 [(5, .inl r9), (4, .inl r7), (3, .inl (wl2i r3)), (2, .inl r1), (0, .inr (.inr (.inl (some (19, 0))))), (1, .inr (.inr (.inl (some (1, s)))))] [.inl r22, .inl r20] _ _ _
            refine ww_ic (t := 97) rfl rfl (by omega) (fun (h24 : r22 ≤ r20) => ?_) (fun (h24 : ¬ (r22 ≤ r20)) => ?_)
            · show wW (zK sc) zM76 97 [(5, .inl r9), (4, .inl r7), (3, .inl (wl2i r3)), (2, .inl r1), (0, .inr (.inr (.inl (some (19, 0))))), (1, .inr (.inr (.inl (some (1, s)))))] [] _ _ _
              refine ww_go 1 (pc' := 98) (L' := [(5, .inl r9), (4, .inl r7), (3, .inl (wl2i r3)), (2, .inl r1), (0, .inr (.inr (.inl (some (19, 0))))), (1, .inr (.inr (.inl (some (1, s)))))]) (st' := [.inl 0]) (m' := m) (o := none) rfl trivial ?_
              exact ww_rB rfl rfl (by omega) ⟨_, rfl, rfl, rfl, by (exact Or.inr ⟨rfl, fun zz => (by obtain ⟨a1, a2, a3, a4, a5, a6, q9, hq9, hle9⟩ := zz; rw [← hr8.1, ← hr10.1] at a6; omega)⟩)⟩
            · show wW (zK sc) zM76 81 [(5, .inl r9), (4, .inl r7), (3, .inl (wl2i r3)), (2, .inl r1), (0, .inr (.inr (.inl (some (19, 0))))), (1, .inr (.inr (.inl (some (1, s)))))] [] _ _ _
              refine ww_go 3 (pc' := 84) (L' := [(5, .inl r9), (4, .inl r7), (3, .inl (wl2i r3)), (2, .inl r1), (0, .inr (.inr (.inl (some (19, 0))))), (1, .inr (.inr (.inl (some (1, s)))))]) (st' := [.inl r1, .inr (.inr (.inl (some (19, 0)))), .inl (wl2i r3)]) (m' := m) (o := none) rfl trivial ?_
              refine ww_call (vs := [.inr (.inr (.inl (some (19, 0)))), .inl r1]) (r := [.inl (wl2i r3)]) (p := 0 < 1) rfl rfl rfl rfl (show 0 < 1 from by omega) (yt89 (c := c) (by omega) r1 hG (by omega)) ?_
              rintro _ _ _ ⟨r25, rfl, rfl, rfl, hr26⟩
              show wW (zK sc) zM76 87 [(5, .inl r9), (4, .inl r7), (3, .inl (wl2i r3)), (2, .inl r1), (0, .inr (.inr (.inl (some (19, 0))))), (1, .inr (.inr (.inl (some (1, s)))))] [.inr (.inr (.inl (some (26, r25)))), .inl (wl2i r3)] _ _ _
              refine ww_call (vs := [.inr (.inr (.inl (some (26, r25))))]) (r := [.inl (wl2i r3)]) (p := r25 < 10) rfl rfl rfl rfl (show r25 < 10 from by omega) (yt155 (c := c) (by omega) r25 hG (by omega)) ?_
              rintro _ _ _ ⟨r27, rfl, rfl, rfl, hr28⟩
              show wW (zK sc) zM76 90 [(5, .inl r9), (4, .inl r7), (3, .inl (wl2i r3)), (2, .inl r1), (0, .inr (.inr (.inl (some (19, 0))))), (1, .inr (.inr (.inl (some (1, s)))))] [.inl r27, .inl (wl2i r3)] _ _ _
              refine ww_ic (t := 97) rfl rfl (by omega) (fun (h29 : wl2i r3 < r27) => ?_) (fun (h29 : ¬ (wl2i r3 < r27)) => ?_)
              · show wW (zK sc) zM76 97 [(5, .inl r9), (4, .inl r7), (3, .inl (wl2i r3)), (2, .inl r1), (0, .inr (.inr (.inl (some (19, 0))))), (1, .inr (.inr (.inl (some (1, s)))))] [] _ _ _
                refine ww_go 1 (pc' := 98) (L' := [(5, .inl r9), (4, .inl r7), (3, .inl (wl2i r3)), (2, .inl r1), (0, .inr (.inr (.inl (some (19, 0))))), (1, .inr (.inr (.inl (some (1, s)))))]) (st' := [.inl 0]) (m' := m) (o := none) rfl trivial ?_
                exact ww_rB rfl rfl (by omega) ⟨_, rfl, rfl, rfl, by (exact Or.inr ⟨rfl, fun zz => (by obtain ⟨a1, a2, a3, a4, a5, a6, q9, hq9, hle9⟩ := zz; have zl8 := hr26.2.2.2 q9 hq9; rw [hr2.1] at zl8; rw [← hr8.1, ← hr10.1] at a6; omega)⟩)⟩
              · show wW (zK sc) zM76 93 [(5, .inl r9), (4, .inl r7), (3, .inl (wl2i r3)), (2, .inl r1), (0, .inr (.inr (.inl (some (19, 0))))), (1, .inr (.inr (.inl (some (1, s)))))] [] _ _ _
                refine ww_go 2 (pc' := 98) (L' := [(5, .inl r9), (4, .inl r7), (3, .inl (wl2i r3)), (2, .inl r1), (0, .inr (.inr (.inl (some (19, 0))))), (1, .inr (.inr (.inl (some (1, s)))))]) (st' := [.inl 1]) (m' := m) (o := none) rfl trivial ?_
                exact ww_rB rfl rfl (by omega) ⟨_, rfl, rfl, rfl, by (exact Or.inl ⟨rfl, by omega, by omega, by omega, by omega, by omega, (by rw [← hr8.1, ← hr10.1]; omega), (by rw [← hr2.1]; exact ⟨r25 - 4 * r1.toNat, by omega, (by rw [show 4 * r1.toNat + (r25 - 4 * r1.toNat) = r25 from by omega]; omega)⟩)⟩)⟩
set_option maxRecDepth 8000 in
/-- Receiver.learn -/
theorem yt88 {sc : xSc} {n : Nat × Nat} {m0 : wm} {c : Int} (hc : 0 ≤ c ∧ c ≤ 1000000) (x : Int) (y : Int) (hG : zB c m0) (h0 : 0 ≤ x ∧ x ≤ 1 ∧ 1 ≤ y ∧ y ≤ 65535) : wX (zK sc) 88 [.inr (.inr (.inl (some (19, 0)))), .inl x, .inl y] n m0 (wr (fun vv n1 m1 => ∃ r : Nat, vv = some (.inr (.inr (.inl (some (26, r))))) ∧ n = n1 ∧ zB c m1 ∧ zfr (fun k i j => (k = 22 ∧ j = 3) ∨ (k = 23) ∨ (k = 24) ∨ (k = 25) ∨ (k = 26 ∧ i < 8) ∨ (k = 28 ∧ i < 8) ∨ (k = 29 ∧ i < 8) ∨ (k = 1 ∧ 101 ≤ i ∧ i < 157 ∧ j = 1)) m0 m1 ∧ ((r < 8 ∧ 4 * x.toNat ≤ r ∧ r < 4 * x.toNat + 4) ∧ ((m0.1 26 r 7 = y ∧ m0 = m1) ∨ zLn m0 m1 x y r)))) := by
  refine wX_of (N := zM88) rfl (Nat.le_of_ble_eq_true rfl) ?_
  show wW (zK sc) zM88 0 [(0, .inr (.inr (.inl (some (19, 0))))), (1, .inl x), (2, .inl y)] [] n m0 _
  have hF : zfr (fun k i j => (k = 22 ∧ j = 3) ∨ (k = 23) ∨ (k = 24) ∨ (k = 25) ∨ (k = 26 ∧ i < 8) ∨ (k = 28 ∧ i < 8) ∨ (k = 29 ∧ i < 8) ∨ (k = 1 ∧ 101 ≤ i ∧ i < 157 ∧ j = 1)) m0 m0 := zfr_rf
  refine ww_go 3 (pc' := 3) (L' := [(0, .inr (.inr (.inl (some (19, 0))))), (1, .inl x), (2, .inl y)]) (st' := [.inl y, .inl x, .inr (.inr (.inl (some (19, 0))))]) (m' := m0) (o := none) rfl trivial ?_
  refine ww_call (vs := [.inr (.inr (.inl (some (19, 0)))), .inl x, .inl y]) (r := []) (p := 0 < 1) rfl rfl rfl rfl (show 0 < 1 from by omega) (yt79 (c := c) (by omega) x y hG (by omega)) ?_
  rintro _ _ _ ⟨r1, rfl, rfl, rfl, hr2⟩
  rcases hr2 with ⟨rfl, hr4⟩ | ⟨e3, rfl, hr4⟩
  · show wW (zK sc) zM88 6 [(0, .inr (.inr (.inl (some (19, 0))))), (1, .inl x), (2, .inl y)] [.inr (.inr (.inl none))] _ _ _
    refine ww_go 2 (pc' := 8) (L' := [(3, .inr (.inr (.inl none))), (0, .inr (.inr (.inl (some (19, 0))))), (1, .inl x), (2, .inl y)]) (st' := [.inr (.inr (.inl none))]) (m' := m0) (o := none) rfl trivial ?_
    refine ww_nu (t := 13) rfl rfl (fun h => ?_) (fun zz9 h => by cases h)
    show wW (zK sc) zM88 13 [(3, .inr (.inr (.inl none))), (0, .inr (.inr (.inl (some (19, 0))))), (1, .inl x), (2, .inl y)] [] _ _ _
    refine ww_go 2 (pc' := 15) (L' := [(3, .inr (.inr (.inl none))), (0, .inr (.inr (.inl (some (19, 0))))), (1, .inl x), (2, .inl y)]) (st' := [.inl x, .inr (.inr (.inl (some (19, 0))))]) (m' := m0) (o := none) rfl trivial ?_
    refine ww_call (vs := [.inr (.inr (.inl (some (19, 0)))), .inl x]) (r := []) (p := 0 < 1) rfl rfl rfl rfl (show 0 < 1 from by omega) (yt89 (c := c) (by omega) x hG (by omega)) ?_
    rintro _ _ _ ⟨r5, rfl, rfl, rfl, hr6⟩
    show wW (zK sc) zM88 18 [(3, .inr (.inr (.inl none))), (0, .inr (.inr (.inl (some (19, 0))))), (1, .inl x), (2, .inl y)] [.inr (.inr (.inl (some (26, r5))))] _ _ _
    refine ww_go 3 (pc' := 23) (L' := [(4, .inr (.inr (.inl (some (26, r5))))), (3, .inr (.inr (.inl none))), (0, .inr (.inr (.inl (some (19, 0))))), (1, .inl x), (2, .inl y)]) (st' := [.inr (.inr (.inl (some (26, r5)))), .inl x]) (m' := m0) (o := none) rfl trivial ?_
    refine ww_call (vs := [.inr (.inr (.inl (some (26, r5))))]) (r := [.inl x]) (p := r5 < 10) rfl rfl rfl rfl (show r5 < 10 from by omega) (yt155 (c := c) (by omega) r5 hG (by omega)) ?_
    rintro _ _ _ ⟨r7, rfl, rfl, rfl, hr8⟩
    show wW (zK sc) zM88 26 [(4, .inr (.inr (.inl (some (26, r5))))), (3, .inr (.inr (.inl none))), (0, .inr (.inr (.inl (some (19, 0))))), (1, .inl x), (2, .inl y)] [.inl r7, .inl x] _ _ _
    refine ww_call (vs := [.inl x, .inl r7]) (r := []) (p := True) rfl rfl rfl rfl trivial (yt113 x r7 (by omega)) ?_
    rintro _ _ _ ⟨r9, rfl, rfl, rfl, hr10⟩
    show wW (zK sc) zM88 29 [(4, .inr (.inr (.inl (some (26, r5))))), (3, .inr (.inr (.inl none))), (0, .inr (.inr (.inl (some (19, 0))))), (1, .inl x), (2, .inl y)] [.inl r9] _ _ _
    refine ww_go 4 (pc' := 37) (L' := [(5, .inl r9), (4, .inr (.inr (.inl (some (26, r5))))), (3, .inr (.inr (.inl none))), (0, .inr (.inr (.inl (some (19, 0))))), (1, .inl x), (2, .inl y)]) (st' := [.inl r9, .inr (.inr (.inl (some (22, 0))))]) (m' := m0) (o := some ((0 < 1))) rfl (show (0 < 1) from by omega) ?_
    refine ww_call (vs := [.inl r9]) (r := [.inr (.inr (.inl (some (22, 0))))]) (p := True) rfl rfl rfl rfl trivial (yt108 r9 (by omega)) ?_
    rintro _ _ _ ⟨r11, rfl, rfl, rfl, hr12⟩
    show wW (zK sc) zM88 40 [(5, .inl r9), (4, .inr (.inr (.inl (some (26, r5))))), (3, .inr (.inr (.inl none))), (0, .inr (.inr (.inl (some (19, 0))))), (1, .inl x), (2, .inl y)] [.inl r11, .inr (.inr (.inl (some (22, 0))))] _ _ _
    refine ww_go 1 (pc' := 42) (L' := [(5, .inl r9), (4, .inr (.inr (.inl (some (26, r5))))), (3, .inr (.inr (.inl none))), (0, .inr (.inr (.inl (some (19, 0))))), (1, .inl x), (2, .inl y)]) (st' := [.inl r9, .inl r11, .inr (.inr (.inl (some (22, 0))))]) (m' := m0) (o := none) rfl trivial ?_
    refine ww_call (vs := [.inl r9]) (r := [.inl r11, .inr (.inr (.inl (some (22, 0))))]) (p := True) rfl rfl rfl rfl trivial (yt112 r9 (by omega)) ?_
    rintro _ _ _ ⟨r13, rfl, rfl, rfl, hr14⟩
    show wW (zK sc) zM88 45 [(5, .inl r9), (4, .inr (.inr (.inl (some (26, r5))))), (3, .inr (.inr (.inl none))), (0, .inr (.inr (.inl (some (19, 0))))), (1, .inl x), (2, .inl y)] [.inl r13, .inl r11, .inr (.inr (.inl (some (22, 0))))] _ _ _
    refine ww_call (vs := [.inr (.inr (.inl (some (22, 0)))), .inl r11, .inl r13]) (r := []) (p := 0 < 1) rfl rfl rfl rfl (show 0 < 1 from by omega) (yt106 (c := c) (by omega) r11 r13 hG (by omega)) ?_
    rintro _ _ m17 ⟨rfl, rfl, hGm17, hEm17, hr16⟩
    have hFm17 : zfr (fun k i j => (k = 22 ∧ j = 3) ∨ (k = 23) ∨ (k = 24) ∨ (k = 25) ∨ (k = 26 ∧ i < 8) ∨ (k = 28 ∧ i < 8) ∨ (k = 29 ∧ i < 8) ∨ (k = 1 ∧ 101 ≤ i ∧ i < 157 ∧ j = 1)) m0 m17 := zfr_tr hF hEm17 (fun k i j z => Or.elim z (fun z => Or.inl z) (fun z => Or.elim z (fun z => Or.inr (Or.inl z)) (fun z => Or.elim z (fun z => Or.inr (Or.inr (Or.inl z))) (fun z => Or.inr (Or.inr (Or.inr (Or.inl z)))))))
    show wW (zK sc) zM88 48 [(5, .inl r9), (4, .inr (.inr (.inl (some (26, r5))))), (3, .inr (.inr (.inl none))), (0, .inr (.inr (.inl (some (19, 0))))), (1, .inl x), (2, .inl y)] [] _ _ _
    refine ww_go 2 (pc' := 51) (L' := [(5, .inl r9), (4, .inr (.inr (.inl (some (26, r5))))), (3, .inr (.inr (.inl none))), (0, .inr (.inr (.inl (some (19, 0))))), (1, .inl x), (2, .inl y)]) (st' := [.inl y, .inr (.inr (.inl (some (26, r5))))]) (m' := m17) (o := none) rfl trivial ?_
    refine ww_call (vs := [.inr (.inr (.inl (some (26, r5)))), .inl y]) (r := []) (p := r5 < 10) rfl rfl rfl rfl (show r5 < 10 from by omega) (yt138 (c := c) (by omega) y r5 hGm17 (by omega)) ?_
    rintro _ _ m20 ⟨rfl, rfl, hGm20, hEm20, hr19⟩
    have hFm20 : zfr (fun k i j => (k = 22 ∧ j = 3) ∨ (k = 23) ∨ (k = 24) ∨ (k = 25) ∨ (k = 26 ∧ i < 8) ∨ (k = 28 ∧ i < 8) ∨ (k = 29 ∧ i < 8) ∨ (k = 1 ∧ 101 ≤ i ∧ i < 157 ∧ j = 1)) m0 m20 := zfr_tr hFm17 hEm20 (fun k i j z => Or.elim z (fun z => (show (k = 22 ∧ j = 3) ∨ (k = 23) ∨ (k = 24) ∨ (k = 25) ∨ (k = 26 ∧ i < 8) ∨ (k = 28 ∧ i < 8) ∨ (k = 29 ∧ i < 8) ∨ (k = 1 ∧ 101 ≤ i ∧ i < 157 ∧ j = 1) from Or.inr (Or.inr (Or.inr (Or.inr (Or.inr (Or.inr (Or.inr ((show k = 1 ∧ 101 ≤ i ∧ i < 157 ∧ j = 1 from by omega)))))))))) (fun z => Or.elim z (fun z => (show (k = 22 ∧ j = 3) ∨ (k = 23) ∨ (k = 24) ∨ (k = 25) ∨ (k = 26 ∧ i < 8) ∨ (k = 28 ∧ i < 8) ∨ (k = 29 ∧ i < 8) ∨ (k = 1 ∧ 101 ≤ i ∧ i < 157 ∧ j = 1) from Or.inr (Or.inr (Or.inr (Or.inr (Or.inr (Or.inr (Or.inl ((show k = 29 ∧ i < 8 from by omega)))))))))) (fun z => Or.elim z (fun z => (show (k = 22 ∧ j = 3) ∨ (k = 23) ∨ (k = 24) ∨ (k = 25) ∨ (k = 26 ∧ i < 8) ∨ (k = 28 ∧ i < 8) ∨ (k = 29 ∧ i < 8) ∨ (k = 1 ∧ 101 ≤ i ∧ i < 157 ∧ j = 1) from Or.inr (Or.inr (Or.inr (Or.inr (Or.inr (Or.inl ((show k = 28 ∧ i < 8 from by omega))))))))) (fun z => (show (k = 22 ∧ j = 3) ∨ (k = 23) ∨ (k = 24) ∨ (k = 25) ∨ (k = 26 ∧ i < 8) ∨ (k = 28 ∧ i < 8) ∨ (k = 29 ∧ i < 8) ∨ (k = 1 ∧ 101 ≤ i ∧ i < 157 ∧ j = 1) from Or.inr (Or.inr (Or.inr (Or.inr (Or.inl ((show k = 26 ∧ i < 8 from by omega)))))))))))
    show wW (zK sc) zM88 54 [(5, .inl r9), (4, .inr (.inr (.inl (some (26, r5))))), (3, .inr (.inr (.inl none))), (0, .inr (.inr (.inl (some (19, 0))))), (1, .inl x), (2, .inl y)] [] _ _ _
    refine ww_go 1 (pc' := 56) (L' := [(5, .inl r9), (4, .inr (.inr (.inl (some (26, r5))))), (3, .inr (.inr (.inl none))), (0, .inr (.inr (.inl (some (19, 0))))), (1, .inl x), (2, .inl y)]) (st' := [.inr (.inr (.inl (some (26, r5))))]) (m' := m20) (o := none) rfl trivial ?_
    have zLd : zLC m17 = (zLC m0).filter (zkc9 (16 * (2 * m0.1 26 r5 7 + x)) (16 * (2 * m0.1 26 r5 7 + x) + 15)) := by have z9 := zDr_L hr16; rw [show r11 = 16 * (2 * m0.1 26 r5 7 + x) from by omega, show r13 = 16 * (2 * m0.1 26 r5 7 + x) + 15 from by omega] at z9; exact z9
    have zLb : zLC m20 = zLC m17 := zLC_fr hEm20 (fun k j h1 h2 => (show ¬ ((k = 1 ∧ 101 + 7 * r5 ≤ 0 ∧ 0 < 108 + 7 * r5 ∧ j = 1) ∨ (k = 29 ∧ 0 = r5) ∨ (k = 28 ∧ 0 = r5) ∨ (k = 26 ∧ 0 = r5)) from by omega))
    exact ww_rA rfl rfl ⟨_, rfl, rfl, zB_mono hGm20 (by omega), hFm20, ⟨by omega, Or.inr ⟨hr4, hr6.2.2.2, zLb.trans zLd, hr19.1, hr19.2.2.1, hr19.2.2.2.1, hr19.2.2.2.2, fun t9 ht hn => ⟨fun j => ((hEm20 26 t9 j (show ¬ ((26 = 1 ∧ 101 + 7 * r5 ≤ t9 ∧ t9 < 108 + 7 * r5 ∧ j = 1) ∨ (26 = 29 ∧ t9 = r5) ∨ (26 = 28 ∧ t9 = r5) ∨ (26 = 26 ∧ t9 = r5)) from by omega)).1).trans (hEm17 26 t9 j (show ¬ ((26 = 22 ∧ j = 3) ∨ (26 = 23) ∨ (26 = 24) ∨ (26 = 25)) from by omega)).1, fun j => ((hEm20 28 t9 j (show ¬ ((28 = 1 ∧ 101 + 7 * r5 ≤ t9 ∧ t9 < 108 + 7 * r5 ∧ j = 1) ∨ (28 = 29 ∧ t9 = r5) ∨ (28 = 28 ∧ t9 = r5) ∨ (28 = 26 ∧ t9 = r5)) from by omega)).1).trans (hEm17 28 t9 j (show ¬ ((28 = 22 ∧ j = 3) ∨ (28 = 23) ∨ (28 = 24) ∨ (28 = 25)) from by omega)).1, fun j => ((hEm20 29 t9 j (show ¬ ((29 = 1 ∧ 101 + 7 * r5 ≤ t9 ∧ t9 < 108 + 7 * r5 ∧ j = 1) ∨ (29 = 29 ∧ t9 = r5) ∨ (29 = 28 ∧ t9 = r5) ∨ (29 = 26 ∧ t9 = r5)) from by omega)).1).trans (hEm17 29 t9 j (show ¬ ((29 = 22 ∧ j = 3) ∨ (29 = 23) ∨ (29 = 24) ∨ (29 = 25)) from by omega)).1, fun i hi => ((hEm20 1 (101 + 7 * t9 + i) 1 (show ¬ ((1 = 1 ∧ 101 + 7 * r5 ≤ ((101 + 7 * t9 + i)) ∧ ((101 + 7 * t9 + i)) < 108 + 7 * r5 ∧ 1 = 1) ∨ (1 = 29 ∧ ((101 + 7 * t9 + i)) = r5) ∨ (1 = 28 ∧ ((101 + 7 * t9 + i)) = r5) ∨ (1 = 26 ∧ ((101 + 7 * t9 + i)) = r5)) from by omega)).1).trans (hEm17 1 (101 + 7 * t9 + i) 1 (show ¬ ((1 = 22 ∧ 1 = 3) ∨ (1 = 23) ∨ (1 = 24) ∨ (1 = 25)) from by omega)).1⟩⟩⟩⟩
  · show wW (zK sc) zM88 6 [(0, .inr (.inr (.inl (some (19, 0))))), (1, .inl x), (2, .inl y)] [.inr (.inr (.inl (some (26, e3))))] _ _ _
    refine ww_go 2 (pc' := 8) (L' := [(3, .inr (.inr (.inl (some (26, e3))))), (0, .inr (.inr (.inl (some (19, 0))))), (1, .inl x), (2, .inl y)]) (st' := [.inr (.inr (.inl (some (26, e3))))]) (m' := m0) (o := none) rfl trivial ?_
    refine ww_nu (t := 13) rfl rfl (fun h => by cases h) (fun zz9 h => ?_)
    show wW (zK sc) zM88 11 [(3, .inr (.inr (.inl (some (26, e3))))), (0, .inr (.inr (.inl (some (19, 0))))), (1, .inl x), (2, .inl y)] [] _ _ _
    refine ww_go 1 (pc' := 12) (L' := [(3, .inr (.inr (.inl (some (26, e3))))), (0, .inr (.inr (.inl (some (19, 0))))), (1, .inl x), (2, .inl y)]) (st' := [.inr (.inr (.inl (some (26, e3))))]) (m' := m0) (o := none) rfl trivial ?_
    exact ww_rA rfl rfl ⟨_, rfl, rfl, zB_mono hG (by omega), hF, ⟨by omega, Or.inl ⟨by omega, rfl⟩⟩⟩
set_option maxRecDepth 8000 in
/-- Receiver.piecesOf -/
theorem yt99 {sc : xSc} {n : Nat × Nat} {m : wm} {c : Int} (hc : 0 ≤ c ∧ c ≤ 1000000) (s : Nat) (hG : zB c m) (h0 : s < 101) : wX (zK sc) 99 [.inr (.inr (.inl (some (1, s))))] n m (wr (fun vv n1 m1 => ∃ r : Int, vv = some (.inl r) ∧ n = n1 ∧ m = m1 ∧ ((1 ≤ r ∧ r ≤ 8) ∧ r = zpc (zBat m s 7) (zBat m s 5)))) := by
  refine wX_of (N := zM99) rfl (Nat.le_of_ble_eq_true rfl) ?_
  show wW (zK sc) zM99 0 [(0, .inr (.inr (.inl (some (1, s)))))] [] n m _
  have z1 := zBat_rg hG s 1
  have z2 := zBat_rg hG s 2
  have z3 := zBat_rg hG s 3
  have z4 := zBat_rg hG s 4
  have z5 := zBat_rg hG s 5
  have z6 := zBat_rg hG s 6
  have z7 := zBat_rg hG s 7
  refine ww_go 2 (pc' := 3) (L' := [(0, .inr (.inr (.inl (some (1, s)))))]) (st' := [.inl 7, .inr (.inr (.inl (some (1, s))))]) (m' := m) (o := none) rfl trivial ?_
  refine ww_call (vs := [.inr (.inr (.inl (some (1, s)))), .inl 7]) (r := []) (p := s < 171) rfl rfl rfl rfl (show s < 171 from by omega) (zs28 (c := c) (by omega) 7 s hG (by omega)) ?_
  rintro _ _ _ ⟨r1, rfl, rfl, rfl, hr2⟩
  show wW (zK sc) zM99 6 [(0, .inr (.inr (.inl (some (1, s)))))] [.inl r1] _ _ _
  refine ww_go 2 (pc' := 8) (L' := [(0, .inr (.inr (.inl (some (1, s)))))]) (st' := [.inl 5, .inr (.inr (.inl (some (1, s)))), .inl r1]) (m' := m) (o := none) rfl trivial ?_
  refine ww_call (vs := [.inr (.inr (.inl (some (1, s)))), .inl 5]) (r := [.inl r1]) (p := s < 171) rfl rfl rfl rfl (show s < 171 from by omega) (zs28 (c := c) (by omega) 5 s hG (by omega)) ?_
  rintro _ _ _ ⟨r3, rfl, rfl, rfl, hr4⟩
  show wW (zK sc) zM99 11 [(0, .inr (.inr (.inl (some (1, s)))))] [.inl r3, .inl r1] _ _ _
  refine ww_call (vs := [.inl r1, .inl r3]) (r := []) (p := True) rfl rfl rfl rfl trivial (zs45 r1 r3 (by omega)) ?_
  rintro _ _ _ ⟨r5, rfl, rfl, rfl, hr6⟩
  show wW (zK sc) zM99 14 [(0, .inr (.inr (.inl (some (1, s)))))] [.inl r5] _ _ _
  exact ww_rI rfl rfl ⟨_, rfl, rfl, rfl, by exact ⟨by omega, by rw [← hr2.1, ← hr4.1]; unfold zpc; omega⟩⟩
set_option maxRecDepth 8000 in
/-- Receiver.maskOf -/
theorem yt97 {sc : xSc} {n : Nat × Nat} {m : wm} {c : Int} (hc : 0 ≤ c ∧ c ≤ 1000000) (s : Nat) (hG : zB c m) (h0 : s < 101) : wX (zK sc) 97 [.inr (.inr (.inl (some (1, s))))] n m (wr (fun vv n1 m1 => ∃ r : Int, vv = some (.inl r) ∧ n = n1 ∧ m = m1 ∧ ((-2147483648 ≤ r ∧ r ≤ 2147483647) ∧ r = zmk (256 * zBat m s 2 + zBat m s 3) (zBat m s 4) (zBat m s 5) (zBat m s 6) (zpc (zBat m s 7) (zBat m s 5))))) := by
  refine wX_of (N := zM97) rfl (Nat.le_of_ble_eq_true rfl) ?_
  show wW (zK sc) zM97 0 [(0, .inr (.inr (.inl (some (1, s)))))] [] n m _
  have z1 := zBat_rg hG s 1
  have z2 := zBat_rg hG s 2
  have z3 := zBat_rg hG s 3
  have z4 := zBat_rg hG s 4
  have z5 := zBat_rg hG s 5
  have z6 := zBat_rg hG s 6
  have z7 := zBat_rg hG s 7
  refine ww_go 3 (pc' := 3) (L' := [(0, .inr (.inr (.inl (some (1, s)))))]) (st' := [.inl 2, .inl 2, .inr (.inr (.inl (some (1, s))))]) (m' := m) (o := none) rfl trivial ?_
  refine ww_call (vs := [.inr (.inr (.inl (some (1, s)))), .inl 2, .inl 2]) (r := []) (p := s < 171) rfl rfl rfl rfl (show s < 171 from by omega) (zs36 (c := c) (by omega) 2 2 s hG (by omega)) ?_
  rintro _ _ _ ⟨r1, rfl, rfl, rfl, hr2⟩
  have z3 := (hr2).1 rfl
  rw [show (2 : Int) + 1 = 3 from rfl] at z3
  show wW (zK sc) zM97 6 [(0, .inr (.inr (.inl (some (1, s)))))] [.inr (.inl r1)] _ _ _
  have t4 := wl2i_rg r1
  refine ww_go 3 (pc' := 9) (L' := [(0, .inr (.inr (.inl (some (1, s)))))]) (st' := [.inl 4, .inr (.inr (.inl (some (1, s)))), .inl (wl2i r1)]) (m' := m) (o := none) rfl trivial ?_
  refine ww_call (vs := [.inr (.inr (.inl (some (1, s)))), .inl 4]) (r := [.inl (wl2i r1)]) (p := s < 171) rfl rfl rfl rfl (show s < 171 from by omega) (zs28 (c := c) (by omega) 4 s hG (by omega)) ?_
  rintro _ _ _ ⟨r5, rfl, rfl, rfl, hr6⟩
  show wW (zK sc) zM97 12 [(0, .inr (.inr (.inl (some (1, s)))))] [.inl r5, .inl (wl2i r1)] _ _ _
  refine ww_go 2 (pc' := 14) (L' := [(0, .inr (.inr (.inl (some (1, s)))))]) (st' := [.inl 5, .inr (.inr (.inl (some (1, s)))), .inl r5, .inl (wl2i r1)]) (m' := m) (o := none) rfl trivial ?_
  refine ww_call (vs := [.inr (.inr (.inl (some (1, s)))), .inl 5]) (r := [.inl r5, .inl (wl2i r1)]) (p := s < 171) rfl rfl rfl rfl (show s < 171 from by omega) (zs28 (c := c) (by omega) 5 s hG (by omega)) ?_
  rintro _ _ _ ⟨r7, rfl, rfl, rfl, hr8⟩
  show wW (zK sc) zM97 17 [(0, .inr (.inr (.inl (some (1, s)))))] [.inl r7, .inl r5, .inl (wl2i r1)] _ _ _
  refine ww_go 2 (pc' := 20) (L' := [(0, .inr (.inr (.inl (some (1, s)))))]) (st' := [.inl 6, .inr (.inr (.inl (some (1, s)))), .inl r7, .inl r5, .inl (wl2i r1)]) (m' := m) (o := none) rfl trivial ?_
  refine ww_call (vs := [.inr (.inr (.inl (some (1, s)))), .inl 6]) (r := [.inl r7, .inl r5, .inl (wl2i r1)]) (p := s < 171) rfl rfl rfl rfl (show s < 171 from by omega) (zs28 (c := c) (by omega) 6 s hG (by omega)) ?_
  rintro _ _ _ ⟨r9, rfl, rfl, rfl, hr10⟩
  show wW (zK sc) zM97 23 [(0, .inr (.inr (.inl (some (1, s)))))] [.inl r9, .inl r7, .inl r5, .inl (wl2i r1)] _ _ _
  refine ww_go 1 (pc' := 24) (L' := [(0, .inr (.inr (.inl (some (1, s)))))]) (st' := [.inr (.inr (.inl (some (1, s)))), .inl r9, .inl r7, .inl r5, .inl (wl2i r1)]) (m' := m) (o := none) rfl trivial ?_
  refine ww_call (vs := [.inr (.inr (.inl (some (1, s))))]) (r := [.inl r9, .inl r7, .inl r5, .inl (wl2i r1)]) (p := True) rfl rfl rfl rfl trivial (yt99 (c := c) (by omega) s hG (by omega)) ?_
  rintro _ _ _ ⟨r11, rfl, rfl, rfl, hr12⟩
  show wW (zK sc) zM97 27 [(0, .inr (.inr (.inl (some (1, s)))))] [.inl r11, .inl r9, .inl r7, .inl r5, .inl (wl2i r1)] _ _ _
  refine ww_call (vs := [.inl (wl2i r1), .inl r5, .inl r7, .inl r9, .inl r11]) (r := []) (p := True) rfl rfl rfl rfl trivial (zs43 (wl2i r1) r5 r7 r9 r11 (by omega)) ?_
  rintro _ _ _ ⟨r13, rfl, rfl, rfl, hr14⟩
  show wW (zK sc) zM97 30 [(0, .inr (.inr (.inl (some (1, s)))))] [.inl r13] _ _ _
  exact ww_rI rfl rfl ⟨_, rfl, rfl, rfl, by exact ⟨by omega, by have z9 := hr14.2; rw [z3, hr6.1, hr8.1, hr10.1, hr12.2] at z9; exact z9⟩⟩
set_option maxRecDepth 8000 in
/-- Receiver.hasOtherSize -/
theorem yt82 {sc : xSc} {n : Nat × Nat} {m : wm} {c : Int} (hc : 0 ≤ c ∧ c ≤ 1000000) (x : Int) (t : Nat) (s : Nat) (hG : zB c m) (h0 : t < 10 ∧ s < 101 ∧ 0 ≤ x ∧ x ≤ 131071 ∧ zBat m s 4 ≤ 6) : wX (zK sc) 82 [.inr (.inr (.inl (some (19, 0)))), .inr (.inr (.inl (some (26, t)))), .inl x, .inr (.inr (.inl (some (1, s))))] n m (wr (fun vv n1 m1 => ∃ r : Int, vv = some (.inl r) ∧ n = n1 ∧ m = m1 ∧ ((r = 1 ∧ zOs m t x s) ∨ (r = 0 ∧ ¬ zOs m t x s)))) := by
  refine wX_of (N := zM82) rfl (Nat.le_of_ble_eq_true rfl) ?_
  show wW (zK sc) zM82 0 [(0, .inr (.inr (.inl (some (19, 0))))), (1, .inr (.inr (.inl (some (26, t))))), (2, .inl x), (3, .inr (.inr (.inl (some (1, s)))))] [] n m _
  have zl9 := zlim_le (101 + 7 * t + (zBat m s 4).toNat)
  refine ww_go 2 (pc' := 2) (L' := [(0, .inr (.inr (.inl (some (19, 0))))), (1, .inr (.inr (.inl (some (26, t))))), (2, .inl x), (3, .inr (.inr (.inl (some (1, s)))))]) (st' := [.inl 4, .inr (.inr (.inl (some (1, s))))]) (m' := m) (o := none) rfl trivial ?_
  refine ww_call (vs := [.inr (.inr (.inl (some (1, s)))), .inl 4]) (r := []) (p := s < 171) rfl rfl rfl rfl (show s < 171 from by omega) (zs28 (c := c) (by omega) 4 s hG (by omega)) ?_
  rintro _ _ _ ⟨r1, rfl, rfl, rfl, hr2⟩
  show wW (zK sc) zM82 5 [(0, .inr (.inr (.inl (some (19, 0))))), (1, .inr (.inr (.inl (some (26, t))))), (2, .inl x), (3, .inr (.inr (.inl (some (1, s)))))] [.inl r1] _ _ _
  refine ww_go 3 (pc' := 10) (L' := [(4, .inl r1), (0, .inr (.inr (.inl (some (19, 0))))), (1, .inr (.inr (.inl (some (26, t))))), (2, .inl x), (3, .inr (.inr (.inl (some (1, s)))))]) (st' := [.inl r1, .inr (.inr (.inl (some (26, t))))]) (m' := m) (o := none) rfl trivial ?_
  refine ww_call (vs := [.inr (.inr (.inl (some (26, t)))), .inl r1]) (r := []) (p := t < 10) rfl rfl rfl rfl (show t < 10 from by omega) (yt142 (c := c) (by omega) r1 t hG (by omega)) ?_
  rintro _ _ _ ⟨r3, rfl, rfl, rfl, hr4⟩
  show wW (zK sc) zM82 13 [(4, .inl r1), (0, .inr (.inr (.inl (some (19, 0))))), (1, .inr (.inr (.inl (some (26, t))))), (2, .inl x), (3, .inr (.inr (.inl (some (1, s)))))] [.inl r3] _ _ _
  refine ww_if (t := 40) rfl rfl (by omega) (fun (h5 : r3 ≠ 0) => ?_) (fun (h5 : ¬ (r3 ≠ 0)) => ?_)
  · show wW (zK sc) zM82 40 [(4, .inl r1), (0, .inr (.inr (.inl (some (19, 0))))), (1, .inr (.inr (.inl (some (26, t))))), (2, .inl x), (3, .inr (.inr (.inl (some (1, s)))))] [] _ _ _
    refine ww_go 4 (pc' := 49) (L' := [(5, .inl 1), (4, .inl r1), (0, .inr (.inr (.inl (some (19, 0))))), (1, .inr (.inr (.inl (some (26, t))))), (2, .inl x), (3, .inr (.inr (.inl (some (1, s)))))]) (st' := [.inl 1]) (m' := m) (o := none) rfl trivial ?_
    refine ww_if (t := 74) rfl rfl (by decide) (fun (h6 : (1 : Int) = 0) => absurd h6 (by decide)) (fun (h6 : ¬ ((1 : Int) = 0)) => ?_)
    show wW (zK sc) zM82 52 [(5, .inl 1), (4, .inl r1), (0, .inr (.inr (.inl (some (19, 0))))), (1, .inr (.inr (.inl (some (26, t))))), (2, .inl x), (3, .inr (.inr (.inl (some (1, s)))))] [] _ _ _
    refine ww_go 2 (pc' := 55) (L' := [(5, .inl 1), (4, .inl r1), (0, .inr (.inr (.inl (some (19, 0))))), (1, .inr (.inr (.inl (some (26, t))))), (2, .inl x), (3, .inr (.inr (.inl (some (1, s)))))]) (st' := [.inl r1, .inr (.inr (.inl (some (26, t))))]) (m' := m) (o := none) rfl trivial ?_
    refine ww_call (vs := [.inr (.inr (.inl (some (26, t)))), .inl r1]) (r := []) (p := t < 10) rfl rfl rfl rfl (show t < 10 from by omega) (yt152 (c := c) (by omega) r1 t hG (by omega)) ?_
    rintro _ _ _ ⟨r7, rfl, rfl, rfl, hr8⟩
    show wW (zK sc) zM82 58 [(5, .inl 1), (4, .inl r1), (0, .inr (.inr (.inl (some (19, 0))))), (1, .inr (.inr (.inl (some (26, t))))), (2, .inl x), (3, .inr (.inr (.inl (some (1, s)))))] [.inr (.inr (.inl (some (1, r7))))] _ _ _
    refine ww_call (vs := [.inr (.inr (.inl (some (1, r7))))]) (r := []) (p := r7 < 171) rfl rfl rfl rfl (show r7 < 171 from by omega) (zs40 (c := c) (by omega) r7 hG (by omega)) ?_
    rintro _ _ _ ⟨r9, rfl, rfl, rfl, hr10⟩
    show wW (zK sc) zM82 61 [(5, .inl 1), (4, .inl r1), (0, .inr (.inr (.inl (some (19, 0))))), (1, .inr (.inr (.inl (some (26, t))))), (2, .inl x), (3, .inr (.inr (.inl (some (1, s)))))] [.inl r9] _ _ _
    refine ww_go 2 (pc' := 64) (L' := [(5, .inl 1), (4, .inl r1), (0, .inr (.inr (.inl (some (19, 0))))), (1, .inr (.inr (.inl (some (26, t))))), (2, .inl x), (3, .inr (.inr (.inl (some (1, s)))))]) (st' := [.inl 7, .inr (.inr (.inl (some (1, s)))), .inl r9]) (m' := m) (o := none) rfl trivial ?_
    refine ww_call (vs := [.inr (.inr (.inl (some (1, s)))), .inl 7]) (r := [.inl r9]) (p := s < 171) rfl rfl rfl rfl (show s < 171 from by omega) (zs28 (c := c) (by omega) 7 s hG (by omega)) ?_
    rintro _ _ _ ⟨r11, rfl, rfl, rfl, hr12⟩
    show wW (zK sc) zM82 67 [(5, .inl 1), (4, .inl r1), (0, .inr (.inr (.inl (some (19, 0))))), (1, .inr (.inr (.inl (some (26, t))))), (2, .inl x), (3, .inr (.inr (.inl (some (1, s)))))] [.inl r11, .inl r9] _ _ _
    refine ww_ic (t := 74) rfl rfl (by omega) (fun (h13 : r9 = r11) => ?_) (fun (h13 : ¬ (r9 = r11)) => ?_)
    · show wW (zK sc) zM82 74 [(5, .inl 1), (4, .inl r1), (0, .inr (.inr (.inl (some (19, 0))))), (1, .inr (.inr (.inl (some (26, t))))), (2, .inl x), (3, .inr (.inr (.inl (some (1, s)))))] [] _ _ _
      refine ww_go 1 (pc' := 75) (L' := [(5, .inl 1), (4, .inl r1), (0, .inr (.inr (.inl (some (19, 0))))), (1, .inr (.inr (.inl (some (26, t))))), (2, .inl x), (3, .inr (.inr (.inl (some (1, s)))))]) (st' := [.inl 0]) (m' := m) (o := none) rfl trivial ?_
      exact ww_rB rfl rfl (by omega) ⟨_, rfl, rfl, rfl, by (exact Or.inr ⟨rfl, fun zz => (by unfold zOs at zz; rw [← hr2.1, ← hr12.1] at zz; have i9 : m.1 1 r7 1 = m.1 1 (101 + 7 * t + r1.toNat) 1 := (by rw [hr8]); omega)⟩)⟩
    · show wW (zK sc) zM82 70 [(5, .inl 1), (4, .inl r1), (0, .inr (.inr (.inl (some (19, 0))))), (1, .inr (.inr (.inl (some (26, t))))), (2, .inl x), (3, .inr (.inr (.inl (some (1, s)))))] [] _ _ _
      refine ww_go 2 (pc' := 75) (L' := [(5, .inl 1), (4, .inl r1), (0, .inr (.inr (.inl (some (19, 0))))), (1, .inr (.inr (.inl (some (26, t))))), (2, .inl x), (3, .inr (.inr (.inl (some (1, s)))))]) (st' := [.inl 1]) (m' := m) (o := none) rfl trivial ?_
      exact ww_rB rfl rfl (by omega) ⟨_, rfl, rfl, rfl, by (exact Or.inl ⟨rfl, (by unfold zOs; rw [← hr2.1, ← hr12.1]; have i9 : m.1 1 r7 1 = m.1 1 (101 + 7 * t + r1.toNat) 1 := (by rw [hr8]); exact ⟨by omega, by omega⟩)⟩)⟩
  · show wW (zK sc) zM82 16 [(4, .inl r1), (0, .inr (.inr (.inl (some (19, 0))))), (1, .inr (.inr (.inl (some (26, t))))), (2, .inl x), (3, .inr (.inr (.inl (some (1, s)))))] [] _ _ _
    refine ww_go 5 (pc' := 24) (L' := [(4, .inl r1), (0, .inr (.inr (.inl (some (19, 0))))), (1, .inr (.inr (.inl (some (26, t))))), (2, .inl x), (3, .inr (.inr (.inl (some (1, s)))))]) (st' := [.inl 0, .inl r1, .inl x, .inr (.inr (.inl (some (22, 0))))]) (m' := m) (o := some ((0 < 1))) rfl (show (0 < 1) from by omega) ?_
    refine ww_call (vs := [.inl x, .inl r1, .inl 0]) (r := [.inr (.inr (.inl (some (22, 0))))]) (p := True) rfl rfl rfl rfl trivial (yt111 x r1 0 (by omega)) ?_
    rintro _ _ _ ⟨r14, rfl, rfl, rfl, hr15⟩
    show wW (zK sc) zM82 27 [(4, .inl r1), (0, .inr (.inr (.inl (some (19, 0))))), (1, .inr (.inr (.inl (some (26, t))))), (2, .inl x), (3, .inr (.inr (.inl (some (1, s)))))] [.inl r14, .inr (.inr (.inl (some (22, 0))))] _ _ _
    refine ww_go 3 (pc' := 31) (L' := [(4, .inl r1), (0, .inr (.inr (.inl (some (19, 0))))), (1, .inr (.inr (.inl (some (26, t))))), (2, .inl x), (3, .inr (.inr (.inl (some (1, s)))))]) (st' := [.inl 1, .inl r1, .inl x, .inl r14, .inr (.inr (.inl (some (22, 0))))]) (m' := m) (o := none) rfl trivial ?_
    refine ww_call (vs := [.inl x, .inl r1, .inl 1]) (r := [.inl r14, .inr (.inr (.inl (some (22, 0))))]) (p := True) rfl rfl rfl rfl trivial (yt111 x r1 1 (by omega)) ?_
    rintro _ _ _ ⟨r16, rfl, rfl, rfl, hr17⟩
    show wW (zK sc) zM82 34 [(4, .inl r1), (0, .inr (.inr (.inl (some (19, 0))))), (1, .inr (.inr (.inl (some (26, t))))), (2, .inl x), (3, .inr (.inr (.inl (some (1, s)))))] [.inl r16, .inl r14, .inr (.inr (.inl (some (22, 0))))] _ _ _
    refine ww_call (vs := [.inr (.inr (.inl (some (22, 0)))), .inl r14, .inl r16]) (r := []) (p := 0 < 1) rfl rfl rfl rfl (show 0 < 1 from by omega) (yt116 (c := c) (by omega) r14 r16 hG (by omega)) ?_
    rintro _ _ _ ⟨r18, rfl, rfl, rfl, hr19⟩
    show wW (zK sc) zM82 37 [(4, .inl r1), (0, .inr (.inr (.inl (some (19, 0))))), (1, .inr (.inr (.inl (some (26, t))))), (2, .inl x), (3, .inr (.inr (.inl (some (1, s)))))] [.inl r18] _ _ _
    refine ww_if (t := 44) rfl rfl (by omega) (fun (h20 : r18 ≤ 0) => ?_) (fun (h20 : ¬ (r18 ≤ 0)) => ?_)
    · show wW (zK sc) zM82 44 [(4, .inl r1), (0, .inr (.inr (.inl (some (19, 0))))), (1, .inr (.inr (.inl (some (26, t))))), (2, .inl x), (3, .inr (.inr (.inl (some (1, s)))))] [] _ _ _
      refine ww_go 3 (pc' := 49) (L' := [(5, .inl 0), (4, .inl r1), (0, .inr (.inr (.inl (some (19, 0))))), (1, .inr (.inr (.inl (some (26, t))))), (2, .inl x), (3, .inr (.inr (.inl (some (1, s)))))]) (st' := [.inl 0]) (m' := m) (o := none) rfl trivial ?_
      refine ww_if (t := 74) rfl rfl (by decide) (fun (h21 : (0 : Int) = 0) => ?_) (fun (h21 : ¬ ((0 : Int) = 0)) => absurd (show (0 : Int) = 0 from by decide) h21)
      show wW (zK sc) zM82 74 [(5, .inl 0), (4, .inl r1), (0, .inr (.inr (.inl (some (19, 0))))), (1, .inr (.inr (.inl (some (26, t))))), (2, .inl x), (3, .inr (.inr (.inl (some (1, s)))))] [] _ _ _
      refine ww_go 1 (pc' := 75) (L' := [(5, .inl 0), (4, .inl r1), (0, .inr (.inr (.inl (some (19, 0))))), (1, .inr (.inr (.inl (some (26, t))))), (2, .inl x), (3, .inr (.inr (.inl (some (1, s)))))]) (st' := [.inl 0]) (m' := m) (o := none) rfl trivial ?_
      exact ww_rB rfl rfl (by omega) ⟨_, rfl, rfl, rfl, by (exact Or.inr ⟨rfl, fun zz => (by unfold zOs at zz; rw [← hr2.1] at zz; have z9 := hr19.2; rw [show r14 = 16 * x + 2 * r1 from by omega, show r16 = 16 * x + 2 * r1 + 1 from by omega] at z9; omega)⟩)⟩
    · show wW (zK sc) zM82 40 [(4, .inl r1), (0, .inr (.inr (.inl (some (19, 0))))), (1, .inr (.inr (.inl (some (26, t))))), (2, .inl x), (3, .inr (.inr (.inl (some (1, s)))))] [] _ _ _
      refine ww_go 4 (pc' := 49) (L' := [(5, .inl 1), (4, .inl r1), (0, .inr (.inr (.inl (some (19, 0))))), (1, .inr (.inr (.inl (some (26, t))))), (2, .inl x), (3, .inr (.inr (.inl (some (1, s)))))]) (st' := [.inl 1]) (m' := m) (o := none) rfl trivial ?_
      refine ww_if (t := 74) rfl rfl (by decide) (fun (h22 : (1 : Int) = 0) => absurd h22 (by decide)) (fun (h22 : ¬ ((1 : Int) = 0)) => ?_)
      show wW (zK sc) zM82 52 [(5, .inl 1), (4, .inl r1), (0, .inr (.inr (.inl (some (19, 0))))), (1, .inr (.inr (.inl (some (26, t))))), (2, .inl x), (3, .inr (.inr (.inl (some (1, s)))))] [] _ _ _
      refine ww_go 2 (pc' := 55) (L' := [(5, .inl 1), (4, .inl r1), (0, .inr (.inr (.inl (some (19, 0))))), (1, .inr (.inr (.inl (some (26, t))))), (2, .inl x), (3, .inr (.inr (.inl (some (1, s)))))]) (st' := [.inl r1, .inr (.inr (.inl (some (26, t))))]) (m' := m) (o := none) rfl trivial ?_
      refine ww_call (vs := [.inr (.inr (.inl (some (26, t)))), .inl r1]) (r := []) (p := t < 10) rfl rfl rfl rfl (show t < 10 from by omega) (yt152 (c := c) (by omega) r1 t hG (by omega)) ?_
      rintro _ _ _ ⟨r23, rfl, rfl, rfl, hr24⟩
      show wW (zK sc) zM82 58 [(5, .inl 1), (4, .inl r1), (0, .inr (.inr (.inl (some (19, 0))))), (1, .inr (.inr (.inl (some (26, t))))), (2, .inl x), (3, .inr (.inr (.inl (some (1, s)))))] [.inr (.inr (.inl (some (1, r23))))] _ _ _
      refine ww_call (vs := [.inr (.inr (.inl (some (1, r23))))]) (r := []) (p := r23 < 171) rfl rfl rfl rfl (show r23 < 171 from by omega) (zs40 (c := c) (by omega) r23 hG (by omega)) ?_
      rintro _ _ _ ⟨r25, rfl, rfl, rfl, hr26⟩
      show wW (zK sc) zM82 61 [(5, .inl 1), (4, .inl r1), (0, .inr (.inr (.inl (some (19, 0))))), (1, .inr (.inr (.inl (some (26, t))))), (2, .inl x), (3, .inr (.inr (.inl (some (1, s)))))] [.inl r25] _ _ _
      refine ww_go 2 (pc' := 64) (L' := [(5, .inl 1), (4, .inl r1), (0, .inr (.inr (.inl (some (19, 0))))), (1, .inr (.inr (.inl (some (26, t))))), (2, .inl x), (3, .inr (.inr (.inl (some (1, s)))))]) (st' := [.inl 7, .inr (.inr (.inl (some (1, s)))), .inl r25]) (m' := m) (o := none) rfl trivial ?_
      refine ww_call (vs := [.inr (.inr (.inl (some (1, s)))), .inl 7]) (r := [.inl r25]) (p := s < 171) rfl rfl rfl rfl (show s < 171 from by omega) (zs28 (c := c) (by omega) 7 s hG (by omega)) ?_
      rintro _ _ _ ⟨r27, rfl, rfl, rfl, hr28⟩
      show wW (zK sc) zM82 67 [(5, .inl 1), (4, .inl r1), (0, .inr (.inr (.inl (some (19, 0))))), (1, .inr (.inr (.inl (some (26, t))))), (2, .inl x), (3, .inr (.inr (.inl (some (1, s)))))] [.inl r27, .inl r25] _ _ _
      refine ww_ic (t := 74) rfl rfl (by omega) (fun (h29 : r25 = r27) => ?_) (fun (h29 : ¬ (r25 = r27)) => ?_)
      · show wW (zK sc) zM82 74 [(5, .inl 1), (4, .inl r1), (0, .inr (.inr (.inl (some (19, 0))))), (1, .inr (.inr (.inl (some (26, t))))), (2, .inl x), (3, .inr (.inr (.inl (some (1, s)))))] [] _ _ _
        refine ww_go 1 (pc' := 75) (L' := [(5, .inl 1), (4, .inl r1), (0, .inr (.inr (.inl (some (19, 0))))), (1, .inr (.inr (.inl (some (26, t))))), (2, .inl x), (3, .inr (.inr (.inl (some (1, s)))))]) (st' := [.inl 0]) (m' := m) (o := none) rfl trivial ?_
        exact ww_rB rfl rfl (by omega) ⟨_, rfl, rfl, rfl, by (exact Or.inr ⟨rfl, fun zz => (by unfold zOs at zz; rw [← hr2.1, ← hr28.1] at zz; have z9 := hr19.2; rw [show r14 = 16 * x + 2 * r1 from by omega, show r16 = 16 * x + 2 * r1 + 1 from by omega] at z9; have i9 : m.1 1 r23 1 = m.1 1 (101 + 7 * t + r1.toNat) 1 := (by rw [hr24]); omega)⟩)⟩
      · show wW (zK sc) zM82 70 [(5, .inl 1), (4, .inl r1), (0, .inr (.inr (.inl (some (19, 0))))), (1, .inr (.inr (.inl (some (26, t))))), (2, .inl x), (3, .inr (.inr (.inl (some (1, s)))))] [] _ _ _
        refine ww_go 2 (pc' := 75) (L' := [(5, .inl 1), (4, .inl r1), (0, .inr (.inr (.inl (some (19, 0))))), (1, .inr (.inr (.inl (some (26, t))))), (2, .inl x), (3, .inr (.inr (.inl (some (1, s)))))]) (st' := [.inl 1]) (m' := m) (o := none) rfl trivial ?_
        exact ww_rB rfl rfl (by omega) ⟨_, rfl, rfl, rfl, by (exact Or.inl ⟨rfl, (by unfold zOs; rw [← hr2.1, ← hr28.1]; have z9 := hr19.2; rw [show r14 = 16 * x + 2 * r1 from by omega, show r16 = 16 * x + 2 * r1 + 1 from by omega] at z9; have i9 : m.1 1 r23 1 = m.1 1 (101 + 7 * t + r1.toNat) 1 := (by rw [hr24]); exact ⟨by omega, by omega⟩)⟩)⟩
set_option maxRecDepth 8000 in
theorem yt96_l4 {sc : xSc} {n : Nat × Nat} {m0 : wm} {c : Int} (hc : 0 ≤ c ∧ c ≤ 1000000)  (hG : zB c m0) : ∀ (d : Nat), ∀ (w : Int) (z : Int), (24 - z).toNat = d → (-1 ≤ w ∧ w ≤ 250000 ∧ 0 ≤ z ∧ z ≤ m0.1 22 0 3) → (zMr m0 z w) →  wW (zK sc) zM96 4 [(0, .inr (.inr (.inl (some (19, 0))))), (1, .inl w), (2, .inl z)] [] n m0 (wr (fun vv n1 m1 => ∃ r : Int, vv = some (.inl r) ∧ n = n1 ∧ zB c m1 ∧ zfr (fun k i j => (k = 22 ∧ j = 3) ∨ (k = 23) ∨ (k = 24) ∨ (k = 25)) m0 m1 ∧ ((r = 0 ∧ m0 = m1 ∧ ∀ j, j < zCu0 m0 → zIg m0 (m0.1 23 0 j / 16)) ∨ (r = 1 ∧ ∃ o, zMr m0 (m0.1 22 0 3) o ∧ 0 ≤ o ∧ zLC m1 = (zLC m0).filter (zkc9 (16 * o) (16 * o + 15)))))) := by
  intro d
  induction d using Nat.strongRecOn with
  | ind d ih =>
    intro w z hd hi hw
    have bu0 : 0 ≤ m0.1 22 0 3 ∧ m0.1 22 0 3 ≤ 24 := hG.1 22 _ rfl _ _
    have hF : zfr (fun k i j => (k = 22 ∧ j = 3) ∨ (k = 23) ∨ (k = 24) ∨ (k = 25)) m0 m0 := zfr_rf
    refine ww_go 3 (pc' := 9) (L' := [(0, .inr (.inr (.inl (some (19, 0))))), (1, .inl w), (2, .inl z)]) (st' := [.inr (.inr (.inl (some (22, 0)))), .inl z]) (m' := m0) (o := some ((0 < 1))) rfl (show (0 < 1) from by omega) ?_
    refine ww_call (vs := [.inr (.inr (.inl (some (22, 0))))]) (r := [.inl z]) (p := 0 < 1) rfl rfl rfl rfl (show 0 < 1 from by omega) (yt118 (c := c) (by omega) hG) ?_
    rintro _ _ _ ⟨r1, rfl, rfl, rfl, hr2⟩
    show wW (zK sc) zM96 12 [(0, .inr (.inr (.inl (some (19, 0))))), (1, .inl w), (2, .inl z)] [.inl r1, .inl z] _ _ _
    refine ww_ic (t := 70) rfl rfl (by omega) (fun (h3 : r1 ≤ z) => ?_) (fun (h3 : ¬ (r1 ≤ z)) => ?_)
    · show wW (zK sc) zM96 70 [(0, .inr (.inr (.inl (some (19, 0))))), (1, .inl w), (2, .inl z)] [] _ _ _
      refine ww_go 1 (pc' := 71) (L' := [(0, .inr (.inr (.inl (some (19, 0))))), (1, .inl w), (2, .inl z)]) (st' := [.inl w]) (m' := m0) (o := none) rfl trivial ?_
      refine ww_if (t := 76) rfl rfl (by omega) (fun (h4 : 0 ≤ w) => ?_) (fun (h4 : ¬ (0 ≤ w)) => ?_)
      · show wW (zK sc) zM96 76 [(0, .inr (.inr (.inl (some (19, 0))))), (1, .inl w), (2, .inl z)] [] _ _ _
        refine ww_go 3 (pc' := 81) (L' := [(0, .inr (.inr (.inl (some (19, 0))))), (1, .inl w), (2, .inl z)]) (st' := [.inl w, .inr (.inr (.inl (some (22, 0))))]) (m' := m0) (o := some ((0 < 1))) rfl (show (0 < 1) from by omega) ?_
        refine ww_call (vs := [.inl w]) (r := [.inr (.inr (.inl (some (22, 0))))]) (p := True) rfl rfl rfl rfl trivial (yt108 w (by omega)) ?_
        rintro _ _ _ ⟨r5, rfl, rfl, rfl, hr6⟩
        show wW (zK sc) zM96 84 [(0, .inr (.inr (.inl (some (19, 0))))), (1, .inl w), (2, .inl z)] [.inl r5, .inr (.inr (.inl (some (22, 0))))] _ _ _
        refine ww_go 1 (pc' := 85) (L' := [(0, .inr (.inr (.inl (some (19, 0))))), (1, .inl w), (2, .inl z)]) (st' := [.inl w, .inl r5, .inr (.inr (.inl (some (22, 0))))]) (m' := m0) (o := none) rfl trivial ?_
        refine ww_call (vs := [.inl w]) (r := [.inl r5, .inr (.inr (.inl (some (22, 0))))]) (p := True) rfl rfl rfl rfl trivial (yt112 w (by omega)) ?_
        rintro _ _ _ ⟨r7, rfl, rfl, rfl, hr8⟩
        show wW (zK sc) zM96 88 [(0, .inr (.inr (.inl (some (19, 0))))), (1, .inl w), (2, .inl z)] [.inl r7, .inl r5, .inr (.inr (.inl (some (22, 0))))] _ _ _
        refine ww_call (vs := [.inr (.inr (.inl (some (22, 0)))), .inl r5, .inl r7]) (r := []) (p := 0 < 1) rfl rfl rfl rfl (show 0 < 1 from by omega) (yt106 (c := c) (by omega) r5 r7 hG (by omega)) ?_
        rintro _ _ m11 ⟨rfl, rfl, hGm11, hEm11, hr10⟩
        have hFm11 : zfr (fun k i j => (k = 22 ∧ j = 3) ∨ (k = 23) ∨ (k = 24) ∨ (k = 25)) m0 m11 := zfr_tr hF hEm11 (fun k i j z => Or.elim z (fun z => Or.inl z) (fun z => Or.elim z (fun z => Or.inr (Or.inl z)) (fun z => Or.elim z (fun z => Or.inr (Or.inr (Or.inl z))) (fun z => Or.inr (Or.inr (Or.inr (z)))))))
        show wW (zK sc) zM96 91 [(0, .inr (.inr (.inl (some (19, 0))))), (1, .inl w), (2, .inl z)] [] _ _ _
        refine ww_go 1 (pc' := 92) (L' := [(0, .inr (.inr (.inl (some (19, 0))))), (1, .inl w), (2, .inl z)]) (st' := [.inl 1]) (m' := m11) (o := none) rfl trivial ?_
        exact ww_rB rfl rfl (by omega) ⟨_, rfl, rfl, zB_mono hGm11 (by omega), hFm11, Or.inr ⟨rfl, w, (by rw [← show z = m0.1 22 0 3 from by omega]; exact hw), by omega, (by have z9 := zDr_L hr10; rw [show r5 = 16 * w from by omega, show r7 = 16 * w + 15 from by omega] at z9; exact z9)⟩⟩
      · show wW (zK sc) zM96 74 [(0, .inr (.inr (.inl (some (19, 0))))), (1, .inl w), (2, .inl z)] [] _ _ _
        refine ww_go 1 (pc' := 75) (L' := [(0, .inr (.inr (.inl (some (19, 0))))), (1, .inl w), (2, .inl z)]) (st' := [.inl 0]) (m' := m0) (o := none) rfl trivial ?_
        exact ww_rB rfl rfl (by omega) ⟨_, rfl, rfl, zB_mono hG (by omega), hF, Or.inl ⟨rfl, rfl, fun j hj => hw.elim (fun z9 => z9.2 j (by unfold zCu0 at hj; omega)) (fun z9 => absurd z9.1 (by omega))⟩⟩
    · show wW (zK sc) zM96 15 [(0, .inr (.inr (.inl (some (19, 0))))), (1, .inl w), (2, .inl z)] [] _ _ _
      refine ww_go 3 (pc' := 20) (L' := [(0, .inr (.inr (.inl (some (19, 0))))), (1, .inl w), (2, .inl z)]) (st' := [.inl z, .inr (.inr (.inl (some (22, 0))))]) (m' := m0) (o := some ((0 < 1))) rfl (show (0 < 1) from by omega) ?_
      refine ww_call (vs := [.inr (.inr (.inl (some (22, 0)))), .inl z]) (r := []) (p := 0 < 1) rfl rfl rfl rfl (show 0 < 1 from by omega) (yt114 (c := c) (by omega) z hG (by omega)) ?_
      rintro _ _ _ ⟨r12, rfl, rfl, rfl, hr13⟩
      show wW (zK sc) zM96 23 [(0, .inr (.inr (.inl (some (19, 0))))), (1, .inl w), (2, .inl z)] [.inl r12] _ _ _
      have t14 := wand_rg r12 1
      have t15 := wand_m1 r12
      refine ww_go 9 (pc' := 32) (L' := [(3, .inl r12), (0, .inr (.inr (.inl (some (19, 0))))), (1, .inl w), (2, .inl z)]) (st' := [.inl (wand r12 1), .inr (.inr (.inl (some (19, 0)))), .inl (wand r12 1), .inl r12]) (m' := m0) (o := none) rfl trivial ?_
      refine ww_call (vs := [.inr (.inr (.inl (some (19, 0)))), .inl (wand r12 1)]) (r := [.inl (wand r12 1), .inl r12]) (p := 0 < 1) rfl rfl rfl rfl (show 0 < 1 from by omega) (yt81 (c := c) (by omega) (wand r12 1) hG (by omega)) ?_
      rintro _ _ _ ⟨r16, rfl, rfl, rfl, hr17⟩
      show wW (zK sc) zM96 35 [(3, .inl r12), (0, .inr (.inr (.inl (some (19, 0))))), (1, .inl w), (2, .inl z)] [.inl r16, .inl (wand r12 1), .inl r12] _ _ _
      refine ww_call (vs := [.inl (wand r12 1), .inl r16]) (r := [.inl r12]) (p := True) rfl rfl rfl rfl trivial (yt113 (wand r12 1) r16 (by omega)) ?_
      rintro _ _ _ ⟨r18, rfl, rfl, rfl, hr19⟩
      show wW (zK sc) zM96 38 [(3, .inl r12), (0, .inr (.inr (.inl (some (19, 0))))), (1, .inl w), (2, .inl z)] [.inl r18, .inl r12] _ _ _
      refine ww_ic (t := 45) rfl rfl (by omega) (fun (h20 : r12 ≠ r18) => ?_) (fun (h20 : ¬ (r12 ≠ r18)) => ?_)
      · show wW (zK sc) zM96 45 [(3, .inl r12), (0, .inr (.inr (.inl (some (19, 0))))), (1, .inl w), (2, .inl z)] [] _ _ _
        refine ww_go 3 (pc' := 50) (L' := [(4, .inl 0), (3, .inl r12), (0, .inr (.inr (.inl (some (19, 0))))), (1, .inl w), (2, .inl z)]) (st' := [.inl 0]) (m' := m0) (o := none) rfl trivial ?_
        refine ww_if (t := 64) rfl rfl (by decide) (fun (h21 : (0 : Int) ≠ 0) => absurd h21 (by decide)) (fun (h21 : ¬ ((0 : Int) ≠ 0)) => ?_)
        show wW (zK sc) zM96 53 [(4, .inl 0), (3, .inl r12), (0, .inr (.inr (.inl (some (19, 0))))), (1, .inl w), (2, .inl z)] [] _ _ _
        refine ww_go 1 (pc' := 54) (L' := [(4, .inl 0), (3, .inl r12), (0, .inr (.inr (.inl (some (19, 0))))), (1, .inl w), (2, .inl z)]) (st' := [.inl w]) (m' := m0) (o := none) rfl trivial ?_
        refine ww_if (t := 62) rfl rfl (by omega) (fun (h22 : w < 0) => ?_) (fun (h22 : ¬ (w < 0)) => ?_)
        · show wW (zK sc) zM96 62 [(4, .inl 0), (3, .inl r12), (0, .inr (.inr (.inl (some (19, 0))))), (1, .inl w), (2, .inl z)] [] _ _ _
          refine ww_go 4 (pc' := 4) (L' := [(2, .inl (z + 1)), (1, .inl r12), (4, .inl 0), (3, .inl r12), (0, .inr (.inr (.inl (some (19, 0)))))]) (st' := []) (m' := m0) (o := none) rfl trivial ?_
          refine ww_sub (L := [(0, .inr (.inr (.inl (some (19, 0))))), (1, .inl r12), (2, .inl (z + 1))]) ⟨rfl, rfl, rfl, trivial⟩ rfl rfl ?_
          exact (ih _ (by omega)) r12 (z + 1) rfl (by omega) (by exact zMr_n hw (by omega) (hr13.2 (by omega) (by omega)) (by omega) (zIg_n (by have z9 := hr17.2; rw [show wand r12 1 = r12 % 2 from by omega] at z9; exact z9) (by omega) (by omega)) (by omega))
        · show wW (zK sc) zM96 57 [(4, .inl 0), (3, .inl r12), (0, .inr (.inr (.inl (some (19, 0))))), (1, .inl w), (2, .inl z)] [] _ _ _
          refine ww_go 2 (pc' := 59) (L' := [(4, .inl 0), (3, .inl r12), (0, .inr (.inr (.inl (some (19, 0))))), (1, .inl w), (2, .inl z)]) (st' := [.inl w, .inl r12]) (m' := m0) (o := none) rfl trivial ?_
          refine ww_ic (t := 64) rfl rfl (by omega) (fun (h23 : w ≤ r12) => ?_) (fun (h23 : ¬ (w ≤ r12)) => ?_)
          · show wW (zK sc) zM96 64 [(4, .inl 0), (3, .inl r12), (0, .inr (.inr (.inl (some (19, 0))))), (1, .inl w), (2, .inl z)] [] _ _ _
            refine ww_go 2 (pc' := 4) (L' := [(2, .inl (z + 1)), (4, .inl 0), (3, .inl r12), (0, .inr (.inr (.inl (some (19, 0))))), (1, .inl w)]) (st' := []) (m' := m0) (o := none) rfl trivial ?_
            refine ww_sub (L := [(0, .inr (.inr (.inl (some (19, 0))))), (1, .inl w), (2, .inl (z + 1))]) ⟨rfl, rfl, rfl, trivial⟩ rfl rfl ?_
            exact (ih _ (by omega)) w (z + 1) rfl (by omega) (by exact zMr_g hw (by omega) (hr13.2 (by omega) (by omega)) (by first | exact Or.inl (zIg_y (by have z9 := hr17.2; rw [show wand r12 1 = r12 % 2 from by omega] at z9; exact z9) (by omega) (by omega)) | exact Or.inr (by omega)))
          · show wW (zK sc) zM96 62 [(4, .inl 0), (3, .inl r12), (0, .inr (.inr (.inl (some (19, 0))))), (1, .inl w), (2, .inl z)] [] _ _ _
            refine ww_go 4 (pc' := 4) (L' := [(2, .inl (z + 1)), (1, .inl r12), (4, .inl 0), (3, .inl r12), (0, .inr (.inr (.inl (some (19, 0)))))]) (st' := []) (m' := m0) (o := none) rfl trivial ?_
            refine ww_sub (L := [(0, .inr (.inr (.inl (some (19, 0))))), (1, .inl r12), (2, .inl (z + 1))]) ⟨rfl, rfl, rfl, trivial⟩ rfl rfl ?_
            exact (ih _ (by omega)) r12 (z + 1) rfl (by omega) (by exact zMr_n hw (by omega) (hr13.2 (by omega) (by omega)) (by omega) (zIg_n (by have z9 := hr17.2; rw [show wand r12 1 = r12 % 2 from by omega] at z9; exact z9) (by omega) (by omega)) (by omega))
      · show wW (zK sc) zM96 41 [(3, .inl r12), (0, .inr (.inr (.inl (some (19, 0))))), (1, .inl w), (2, .inl z)] [] _ _ _
        refine ww_go 4 (pc' := 50) (L' := [(4, .inl 1), (3, .inl r12), (0, .inr (.inr (.inl (some (19, 0))))), (1, .inl w), (2, .inl z)]) (st' := [.inl 1]) (m' := m0) (o := none) rfl trivial ?_
        refine ww_if (t := 64) rfl rfl (by decide) (fun (h24 : (1 : Int) ≠ 0) => ?_) (fun (h24 : ¬ ((1 : Int) ≠ 0)) => absurd (show (1 : Int) ≠ 0 from by decide) h24)
        show wW (zK sc) zM96 64 [(4, .inl 1), (3, .inl r12), (0, .inr (.inr (.inl (some (19, 0))))), (1, .inl w), (2, .inl z)] [] _ _ _
        refine ww_go 2 (pc' := 4) (L' := [(2, .inl (z + 1)), (4, .inl 1), (3, .inl r12), (0, .inr (.inr (.inl (some (19, 0))))), (1, .inl w)]) (st' := []) (m' := m0) (o := none) rfl trivial ?_
        refine ww_sub (L := [(0, .inr (.inr (.inl (some (19, 0))))), (1, .inl w), (2, .inl (z + 1))]) ⟨rfl, rfl, rfl, trivial⟩ rfl rfl ?_
        exact (ih _ (by omega)) w (z + 1) rfl (by omega) (by exact zMr_g hw (by omega) (hr13.2 (by omega) (by omega)) (by first | exact Or.inl (zIg_y (by have z9 := hr17.2; rw [show wand r12 1 = r12 % 2 from by omega] at z9; exact z9) (by omega) (by omega)) | exact Or.inr (by omega)))
set_option maxRecDepth 8000 in
/-- Receiver.makeRoom -/
theorem yt96 {sc : xSc} {n : Nat × Nat} {m0 : wm} {c : Int} (hc : 0 ≤ c ∧ c ≤ 1000000)  (hG : zB c m0) : wX (zK sc) 96 [.inr (.inr (.inl (some (19, 0))))] n m0 (wr (fun vv n1 m1 => ∃ r : Int, vv = some (.inl r) ∧ n = n1 ∧ zB c m1 ∧ zfr (fun k i j => (k = 22 ∧ j = 3) ∨ (k = 23) ∨ (k = 24) ∨ (k = 25)) m0 m1 ∧ ((r = 0 ∧ m0 = m1 ∧ ∀ j, j < zCu0 m0 → zIg m0 (m0.1 23 0 j / 16)) ∨ (r = 1 ∧ ∃ o, zMr m0 (m0.1 22 0 3) o ∧ 0 ≤ o ∧ zLC m1 = (zLC m0).filter (zkc9 (16 * o) (16 * o + 15)))))) := by
  refine wX_of (N := zM96) rfl (Nat.le_of_ble_eq_true rfl) ?_
  show wW (zK sc) zM96 0 [(0, .inr (.inr (.inl (some (19, 0)))))] [] n m0 _
  have hF : zfr (fun k i j => (k = 22 ∧ j = 3) ∨ (k = 23) ∨ (k = 24) ∨ (k = 25)) m0 m0 := zfr_rf
  have bu0 : 0 ≤ m0.1 22 0 3 ∧ m0.1 22 0 3 ≤ 24 := hG.1 22 _ rfl _ _
  refine ww_go 4 (pc' := 4) (L' := [(2, .inl 0), (1, .inl ((-1))), (0, .inr (.inr (.inl (some (19, 0)))))]) (st' := []) (m' := m0) (o := none) rfl trivial ?_
  refine ww_sub (L := [(0, .inr (.inr (.inl (some (19, 0))))), (1, .inl ((-1))), (2, .inl 0)]) ⟨rfl, rfl, rfl, trivial⟩ rfl rfl ?_
  exact (yt96_l4 hc hG _) ((-1)) 0 rfl (by omega) (by exact zMr_0)
set_option maxRecDepth 8000 in
/-- Mo.forget -/
theorem yt199 {sc : xSc} {n : Nat × Nat} {m0 : wm} {c : Int} (hc : 0 ≤ c ∧ c ≤ 1000000) (q : Int) (hG : zB c m0) (h0 : 0 ≤ q ∧ q ≤ 55) : wX (zK sc) 199 [.inr (.inr (.inl (some (34, 0)))), .inl q] n m0 (wr (fun vv n1 m1 => vv = none ∧ n = n1 ∧ zB c m1 ∧ zfr (fun k i j => (k = 58) ∨ (k = 59) ∨ (k = 60) ∨ (k = 61) ∨ (k = 34 ∧ j = 30) ∨ (k = 54) ∨ (k = 55) ∨ (k = 57)) m0 m1 ∧ (zFg m0 m1 q ∧ zLR m1 = (zLR m0).filter (zkq q q (-1))))) := by
  refine wX_of (N := zM199) rfl (Nat.le_of_ble_eq_true rfl) ?_
  show wW (zK sc) zM199 0 [(0, .inr (.inr (.inl (some (34, 0))))), (1, .inl q)] [] n m0 _
  have hF : zfr (fun k i j => (k = 58) ∨ (k = 59) ∨ (k = 60) ∨ (k = 61) ∨ (k = 34 ∧ j = 30) ∨ (k = 54) ∨ (k = 55) ∨ (k = 57)) m0 m0 := zfr_rf
  refine ww_go 4 (pc' := 4) (L' := [(0, .inr (.inr (.inl (some (34, 0))))), (1, .inl q)]) (st' := [.inl ((-1)), .inl q, .inl q, .inr (.inr (.inl (some (34, 0))))]) (m' := m0) (o := none) rfl trivial ?_
  refine ww_call (vs := [.inr (.inr (.inl (some (34, 0)))), .inl q, .inl q, .inl ((-1))]) (r := []) (p := 0 < 1) rfl rfl rfl rfl (show 0 < 1 from by omega) (yt192 (c := c) (by omega) q q ((-1)) hG (by omega)) ?_
  rintro _ _ m3 ⟨rfl, rfl, hGm3, hEm3, hr2⟩
  have hFm3 : zfr (fun k i j => (k = 58) ∨ (k = 59) ∨ (k = 60) ∨ (k = 61) ∨ (k = 34 ∧ j = 30) ∨ (k = 54) ∨ (k = 55) ∨ (k = 57)) m0 m3 := zfr_tr hF hEm3 (fun k i j z => Or.elim z (fun z => Or.inl z) (fun z => Or.elim z (fun z => Or.inr (Or.inl z)) (fun z => Or.elim z (fun z => Or.inr (Or.inr (Or.inl z))) (fun z => Or.elim z (fun z => Or.inr (Or.inr (Or.inr (Or.inl z)))) (fun z => Or.inr (Or.inr (Or.inr (Or.inr (Or.inl z)))))))))
  show wW (zK sc) zM199 7 [(0, .inr (.inr (.inl (some (34, 0))))), (1, .inl q)] [] _ _ _
  refine ww_go 7 (pc' := 16) (L' := [(0, .inr (.inr (.inl (some (34, 0))))), (1, .inl q)]) (st' := []) (m' := wuI m3 55 0 ((2 * q).toNat) 0) (o := some ((0 < 1) ∧ (0 < 1 ∧ 0 ≤ 2 * q ∧ 2 * q < ((112 : Nat) : Int) ∧ 0 ≤ (0 : Int) ∧ (0 : Int) ≤ 1))) rfl (show (0 < 1) ∧ (0 < 1 ∧ 0 ≤ 2 * q ∧ 2 * q < ((112 : Nat) : Int) ∧ 0 ≤ (0 : Int) ∧ (0 : Int) ≤ 1) from by omega) ?_
  obtain ⟨m4, hm4⟩ : ∃ zq9 : wm, zq9 = wuI m3 55 0 ((2 * q).toNat) 0 := ⟨_, rfl⟩
  rw [← hm4]
  have hGm4 : zB c m4 := by rw [hm4]; exact zB_wI rfl (show 0 ≤ (0 : Int) ∧ (0 : Int) ≤ 1 from by omega) hGm3
  have hFm4 : zfr (fun k i j => (k = 58) ∨ (k = 59) ∨ (k = 60) ∨ (k = 61) ∨ (k = 34 ∧ j = 30) ∨ (k = 54) ∨ (k = 55) ∨ (k = 57)) m0 m4 := by rw [hm4]; exact zfr_wI hFm3 (show (55 = 58) ∨ (55 = 59) ∨ (55 = 60) ∨ (55 = 61) ∨ (55 = 34 ∧ ((2 * q).toNat) = 30) ∨ (55 = 54) ∨ (55 = 55) ∨ (55 = 57) from Or.inr (Or.inr (Or.inr (Or.inr (Or.inr (Or.inr (Or.inl rfl)))))))
  have s5 : m4.1 55 0 ((2 * q).toNat) = (0 : Int) := by rw [hm4]; exact wuI_self
  refine ww_go 9 (pc' := 27) (L' := [(0, .inr (.inr (.inl (some (34, 0))))), (1, .inl q)]) (st' := []) (m' := wuI m4 55 0 (((2 * q) + 1).toNat) 0) (o := some ((0 < 1) ∧ (0 < 1 ∧ 0 ≤ (2 * q) + 1 ∧ (2 * q) + 1 < ((112 : Nat) : Int) ∧ 0 ≤ (0 : Int) ∧ (0 : Int) ≤ 1))) rfl (show (0 < 1) ∧ (0 < 1 ∧ 0 ≤ (2 * q) + 1 ∧ (2 * q) + 1 < ((112 : Nat) : Int) ∧ 0 ≤ (0 : Int) ∧ (0 : Int) ≤ 1) from by omega) ?_
  obtain ⟨m6, hm6⟩ : ∃ zq9 : wm, zq9 = wuI m4 55 0 (((2 * q) + 1).toNat) 0 := ⟨_, rfl⟩
  rw [← hm6]
  have hGm6 : zB c m6 := by rw [hm6]; exact zB_wI rfl (show 0 ≤ (0 : Int) ∧ (0 : Int) ≤ 1 from by omega) hGm4
  have hFm6 : zfr (fun k i j => (k = 58) ∨ (k = 59) ∨ (k = 60) ∨ (k = 61) ∨ (k = 34 ∧ j = 30) ∨ (k = 54) ∨ (k = 55) ∨ (k = 57)) m0 m6 := by rw [hm6]; exact zfr_wI hFm4 (show (55 = 58) ∨ (55 = 59) ∨ (55 = 60) ∨ (55 = 61) ∨ (55 = 34 ∧ (((2 * q) + 1).toNat) = 30) ∨ (55 = 54) ∨ (55 = 55) ∨ (55 = 57) from Or.inr (Or.inr (Or.inr (Or.inr (Or.inr (Or.inr (Or.inl rfl)))))))
  have s7 : m6.1 55 0 (((2 * q) + 1).toNat) = (0 : Int) := by rw [hm6]; exact wuI_self
  refine ww_go 5 (pc' := 34) (L' := [(0, .inr (.inr (.inl (some (34, 0))))), (1, .inl q)]) (st' := []) (m' := wuI m6 57 0 q.toNat 0) (o := some ((0 < 1) ∧ (0 < 1 ∧ 0 ≤ q ∧ q < ((56 : Nat) : Int) ∧ 0 ≤ (0 : Int) ∧ (0 : Int) ≤ 1))) rfl (show (0 < 1) ∧ (0 < 1 ∧ 0 ≤ q ∧ q < ((56 : Nat) : Int) ∧ 0 ≤ (0 : Int) ∧ (0 : Int) ≤ 1) from by omega) ?_
  obtain ⟨m8, hm8⟩ : ∃ zq9 : wm, zq9 = wuI m6 57 0 q.toNat 0 := ⟨_, rfl⟩
  rw [← hm8]
  have hGm8 : zB c m8 := by rw [hm8]; exact zB_wI rfl (show 0 ≤ (0 : Int) ∧ (0 : Int) ≤ 1 from by omega) hGm6
  have hFm8 : zfr (fun k i j => (k = 58) ∨ (k = 59) ∨ (k = 60) ∨ (k = 61) ∨ (k = 34 ∧ j = 30) ∨ (k = 54) ∨ (k = 55) ∨ (k = 57)) m0 m8 := by rw [hm8]; exact zfr_wI hFm6 (show (57 = 58) ∨ (57 = 59) ∨ (57 = 60) ∨ (57 = 61) ∨ (57 = 34 ∧ q.toNat = 30) ∨ (57 = 54) ∨ (57 = 55) ∨ (57 = 57) from Or.inr (Or.inr (Or.inr (Or.inr (Or.inr (Or.inr (Or.inr (rfl))))))))
  have s9 : m8.1 57 0 q.toNat = (0 : Int) := by rw [hm8]; exact wuI_self
  refine ww_go 5 (pc' := 41) (L' := [(0, .inr (.inr (.inl (some (34, 0))))), (1, .inl q)]) (st' := []) (m' := wuI m8 54 0 q.toNat ((-1))) (o := some ((0 < 1) ∧ (0 < 1 ∧ 0 ≤ q ∧ q < ((56 : Nat) : Int)))) rfl (show (0 < 1) ∧ (0 < 1 ∧ 0 ≤ q ∧ q < ((56 : Nat) : Int)) from by omega) ?_
  obtain ⟨m10, hm10⟩ : ∃ zq9 : wm, zq9 = wuI m8 54 0 q.toNat ((-1)) := ⟨_, rfl⟩
  rw [← hm10]
  have hGm10 : zB c m10 := by rw [hm10]; exact zB_wI rfl (show (-1) ≤ ((-1) : Int) ∧ ((-1) : Int) ≤ 104 from by omega) hGm8
  have hFm10 : zfr (fun k i j => (k = 58) ∨ (k = 59) ∨ (k = 60) ∨ (k = 61) ∨ (k = 34 ∧ j = 30) ∨ (k = 54) ∨ (k = 55) ∨ (k = 57)) m0 m10 := by rw [hm10]; exact zfr_wI hFm8 (show (54 = 58) ∨ (54 = 59) ∨ (54 = 60) ∨ (54 = 61) ∨ (54 = 34 ∧ q.toNat = 30) ∨ (54 = 54) ∨ (54 = 55) ∨ (54 = 57) from Or.inr (Or.inr (Or.inr (Or.inr (Or.inr (Or.inl rfl))))))
  have s11 : m10.1 54 0 q.toNat = ((-1) : Int) := by rw [hm10]; exact wuI_self
  exact ww_rV rfl rfl ⟨rfl, rfl, zB_mono hGm10 (by omega), hFm10, ⟨⟨fun j hj => by rw [hm10]; show m8.1 57 0 j.toNat = _; rw [hm8, wuI_at (by omega) hj]; show (if j = q then (0 : Int) else m6.1 57 0 j.toNat) = _; rw [hm6]; show (if j = q then (0 : Int) else m4.1 57 0 j.toNat) = _; rw [hm4]; show (if j = q then (0 : Int) else m3.1 57 0 j.toNat) = _; rw [(hEm3 57 0 j.toNat (show ¬ ((57 = 58) ∨ (57 = 59) ∨ (57 = 60) ∨ (57 = 61) ∨ (57 = 34 ∧ j.toNat = 30)) from by omega)).1], fun j hj => by rw [hm10, wuI_at (by omega) hj]; show (if j = q then (-1 : Int) else m8.1 54 0 j.toNat) = _; rw [hm8]; show (if j = q then (-1 : Int) else m6.1 54 0 j.toNat) = _; rw [hm6]; show (if j = q then (-1 : Int) else m4.1 54 0 j.toNat) = _; rw [hm4]; show (if j = q then (-1 : Int) else m3.1 54 0 j.toNat) = _; rw [(hEm3 54 0 j.toNat (show ¬ ((54 = 58) ∨ (54 = 59) ∨ (54 = 60) ∨ (54 = 61) ∨ (54 = 34 ∧ j.toNat = 30)) from by omega)).1], fun j hj => by rw [hm10]; show m8.1 55 0 j.toNat = _; rw [hm8]; show m6.1 55 0 j.toNat = _; rw [hm6, wuI_at (by omega) hj, hm4, wuI_at (by omega) hj, (hEm3 55 0 j.toNat (show ¬ ((55 = 58) ∨ (55 = 59) ∨ (55 = 60) ∨ (55 = 61) ∨ (55 = 34 ∧ j.toNat = 30)) from by omega)).1]; exact zif2⟩, (by rw [hm10, hm8, hm6, hm4]; exact zRdr_L hr2.2.2)⟩⟩
set_option maxRecDepth 8000 in
theorem yt195_l2 {sc : xSc} {n : Nat × Nat} {m0 : wm} {c : Int} (hc : 0 ≤ c ∧ c ≤ 1000000) (f : Int) (hG : zB c m0) (hR : zRI m0) (h0 : 0 ≤ f ∧ f ≤ 7) : ∀ (d : Nat), ∀ (k : Int) (m : wm), (7 - k).toNat = d → zB c m → zfr (fun k i j => (k = 58) ∨ (k = 59) ∨ (k = 60) ∨ (k = 61) ∨ (k = 34 ∧ j = 30) ∨ (k = 54) ∨ (k = 55) ∨ (k = 57) ∨ (k = 50) ∨ (k = 51) ∨ (k = 52) ∨ (k = 53)) m0 m → (0 ≤ k ∧ k ≤ 7) → (zEm m0 m f k) → (m.1 51 0 = m0.1 51 0 ∧ m.1 52 0 = m0.1 52 0 ∧ m.1 53 0 = m0.1 53 0 ∧ m.1 56 0 = m0.1 56 0) → (m.1 50 0 = m0.1 50 0) → (zLR m = (zLR m0).filter (zkp f k)) →  wW (zK sc) zM195 2 [(0, .inr (.inr (.inl (some (34, 0))))), (1, .inl f), (2, .inl k)] [] n m (wr (fun vv n1 m1 => vv = none ∧ n = n1 ∧ zB c m1 ∧ zfr (fun k i j => (k = 58) ∨ (k = 59) ∨ (k = 60) ∨ (k = 61) ∨ (k = 34 ∧ j = 30) ∨ (k = 54) ∨ (k = 55) ∨ (k = 57) ∨ (k = 50) ∨ (k = 51) ∨ (k = 52) ∨ (k = 53)) m0 m1 ∧ (zRI m1 ∧ (zEm m0 m1 f 7 ∧ zZe 50 m0 m1 f ∧ zZe 51 m0 m1 f ∧ zZe 52 m0 m1 f ∧ m1.1 56 0 = m0.1 56 0 ∧ zLR m1 = (zLR m0).filter (zkp f 7))))) := by
  intro d
  induction d using Nat.strongRecOn with
  | ind d ih =>
    intro k m hd hGm hFm hi he hs h50 hrw
    refine ww_go 2 (pc' := 5) (L' := [(0, .inr (.inr (.inl (some (34, 0))))), (1, .inl f), (2, .inl k)]) (st' := [.inl 7, .inl k]) (m' := m) (o := none) rfl trivial ?_
    refine ww_ic (t := 24) rfl rfl (by omega) (fun (h1 : 7 ≤ k) => ?_) (fun (h1 : ¬ (7 ≤ k)) => ?_)
    · show wW (zK sc) zM195 24 [(0, .inr (.inr (.inl (some (34, 0))))), (1, .inl f), (2, .inl k)] [] _ _ _
      refine ww_go 5 (pc' := 31) (L' := [(0, .inr (.inr (.inl (some (34, 0))))), (1, .inl f), (2, .inl k)]) (st' := []) (m' := wuI m 50 0 f.toNat 0) (o := some ((0 < 1) ∧ (0 < 1 ∧ 0 ≤ f ∧ f < ((8 : Nat) : Int)))) rfl (show (0 < 1) ∧ (0 < 1 ∧ 0 ≤ f ∧ f < ((8 : Nat) : Int)) from by omega) ?_
      obtain ⟨m2, hm2⟩ : ∃ zq9 : wm, zq9 = wuI m 50 0 f.toNat 0 := ⟨_, rfl⟩
      rw [← hm2]
      have hGm2 : zB c m2 := by rw [hm2]; exact zB_wI rfl (show 0 ≤ (0 : Int) ∧ (0 : Int) ≤ 65535 from by omega) hGm
      have hFm2 : zfr (fun k i j => (k = 58) ∨ (k = 59) ∨ (k = 60) ∨ (k = 61) ∨ (k = 34 ∧ j = 30) ∨ (k = 54) ∨ (k = 55) ∨ (k = 57) ∨ (k = 50) ∨ (k = 51) ∨ (k = 52) ∨ (k = 53)) m0 m2 := by rw [hm2]; exact zfr_wI hFm (show (50 = 58) ∨ (50 = 59) ∨ (50 = 60) ∨ (50 = 61) ∨ (50 = 34 ∧ f.toNat = 30) ∨ (50 = 54) ∨ (50 = 55) ∨ (50 = 57) ∨ (50 = 50) ∨ (50 = 51) ∨ (50 = 52) ∨ (50 = 53) from Or.inr (Or.inr (Or.inr (Or.inr (Or.inr (Or.inr (Or.inr (Or.inr (Or.inl rfl)))))))))
      have s3 : m2.1 50 0 f.toNat = (0 : Int) := by rw [hm2]; exact wuI_self
      refine ww_go 5 (pc' := 38) (L' := [(0, .inr (.inr (.inl (some (34, 0))))), (1, .inl f), (2, .inl k)]) (st' := []) (m' := wuI m2 51 0 f.toNat 0) (o := some ((0 < 1) ∧ (0 < 1 ∧ 0 ≤ f ∧ f < ((8 : Nat) : Int) ∧ 0 ≤ (0 : Int) ∧ (0 : Int) ≤ 1))) rfl (show (0 < 1) ∧ (0 < 1 ∧ 0 ≤ f ∧ f < ((8 : Nat) : Int) ∧ 0 ≤ (0 : Int) ∧ (0 : Int) ≤ 1) from by omega) ?_
      obtain ⟨m4, hm4⟩ : ∃ zq9 : wm, zq9 = wuI m2 51 0 f.toNat 0 := ⟨_, rfl⟩
      rw [← hm4]
      have hGm4 : zB c m4 := by rw [hm4]; exact zB_wI rfl (show 0 ≤ (0 : Int) ∧ (0 : Int) ≤ 1 from by omega) hGm2
      have hFm4 : zfr (fun k i j => (k = 58) ∨ (k = 59) ∨ (k = 60) ∨ (k = 61) ∨ (k = 34 ∧ j = 30) ∨ (k = 54) ∨ (k = 55) ∨ (k = 57) ∨ (k = 50) ∨ (k = 51) ∨ (k = 52) ∨ (k = 53)) m0 m4 := by rw [hm4]; exact zfr_wI hFm2 (show (51 = 58) ∨ (51 = 59) ∨ (51 = 60) ∨ (51 = 61) ∨ (51 = 34 ∧ f.toNat = 30) ∨ (51 = 54) ∨ (51 = 55) ∨ (51 = 57) ∨ (51 = 50) ∨ (51 = 51) ∨ (51 = 52) ∨ (51 = 53) from Or.inr (Or.inr (Or.inr (Or.inr (Or.inr (Or.inr (Or.inr (Or.inr (Or.inr (Or.inl rfl))))))))))
      have s5 : m4.1 51 0 f.toNat = (0 : Int) := by rw [hm4]; exact wuI_self
      refine ww_go 5 (pc' := 45) (L' := [(0, .inr (.inr (.inl (some (34, 0))))), (1, .inl f), (2, .inl k)]) (st' := []) (m' := wuI m4 52 0 f.toNat 0) (o := some ((0 < 1) ∧ (0 < 1 ∧ 0 ≤ f ∧ f < ((8 : Nat) : Int)))) rfl (show (0 < 1) ∧ (0 < 1 ∧ 0 ≤ f ∧ f < ((8 : Nat) : Int)) from by omega) ?_
      obtain ⟨m6, hm6⟩ : ∃ zq9 : wm, zq9 = wuI m4 52 0 f.toNat 0 := ⟨_, rfl⟩
      rw [← hm6]
      have hGm6 : zB c m6 := by rw [hm6]; exact zB_wI rfl (show 0 ≤ (0 : Int) ∧ (0 : Int) ≤ 6 from by omega) hGm4
      have hFm6 : zfr (fun k i j => (k = 58) ∨ (k = 59) ∨ (k = 60) ∨ (k = 61) ∨ (k = 34 ∧ j = 30) ∨ (k = 54) ∨ (k = 55) ∨ (k = 57) ∨ (k = 50) ∨ (k = 51) ∨ (k = 52) ∨ (k = 53)) m0 m6 := by rw [hm6]; exact zfr_wI hFm4 (show (52 = 58) ∨ (52 = 59) ∨ (52 = 60) ∨ (52 = 61) ∨ (52 = 34 ∧ f.toNat = 30) ∨ (52 = 54) ∨ (52 = 55) ∨ (52 = 57) ∨ (52 = 50) ∨ (52 = 51) ∨ (52 = 52) ∨ (52 = 53) from Or.inr (Or.inr (Or.inr (Or.inr (Or.inr (Or.inr (Or.inr (Or.inr (Or.inr (Or.inr (Or.inl rfl)))))))))))
      have s7 : m6.1 52 0 f.toNat = (0 : Int) := by rw [hm6]; exact wuI_self
      refine ww_go 5 (pc' := 52) (L' := [(0, .inr (.inr (.inl (some (34, 0))))), (1, .inl f), (2, .inl k)]) (st' := []) (m' := wuI m6 53 0 f.toNat 0) (o := some ((0 < 1) ∧ (0 < 1 ∧ 0 ≤ f ∧ f < ((8 : Nat) : Int)))) rfl (show (0 < 1) ∧ (0 < 1 ∧ 0 ≤ f ∧ f < ((8 : Nat) : Int)) from by omega) ?_
      obtain ⟨m8, hm8⟩ : ∃ zq9 : wm, zq9 = wuI m6 53 0 f.toNat 0 := ⟨_, rfl⟩
      rw [← hm8]
      have hGm8 : zB c m8 := by rw [hm8]; exact zB_wI rfl (show 0 ≤ (0 : Int) ∧ (0 : Int) ≤ 2 from by omega) hGm6
      have hFm8 : zfr (fun k i j => (k = 58) ∨ (k = 59) ∨ (k = 60) ∨ (k = 61) ∨ (k = 34 ∧ j = 30) ∨ (k = 54) ∨ (k = 55) ∨ (k = 57) ∨ (k = 50) ∨ (k = 51) ∨ (k = 52) ∨ (k = 53)) m0 m8 := by rw [hm8]; exact zfr_wI hFm6 (show (53 = 58) ∨ (53 = 59) ∨ (53 = 60) ∨ (53 = 61) ∨ (53 = 34 ∧ f.toNat = 30) ∨ (53 = 54) ∨ (53 = 55) ∨ (53 = 57) ∨ (53 = 50) ∨ (53 = 51) ∨ (53 = 52) ∨ (53 = 53) from Or.inr (Or.inr (Or.inr (Or.inr (Or.inr (Or.inr (Or.inr (Or.inr (Or.inr (Or.inr (Or.inr (rfl))))))))))))
      have s9 : m8.1 53 0 f.toNat = (0 : Int) := by rw [hm8]; exact wuI_self
      have hRm8 : zRI m8 := by rw [hm8]; rw [hm6, hm4, hm2]; have z7 : zEm m0 m f 7 := (by have z : k = 7 := (by omega); rw [z] at he; exact he); exact zRI_em hR (zB_ct hG) (by omega) z7 (fun j hj => by show (wuI (wuI m 50 0 f.toNat 0) 51 0 f.toNat 0).1 51 0 j.toNat = _; rw [wuI_at (by omega) hj]; show (if j = f then (0 : Int) else m.1 51 0 j.toNat) = _; rw [hs.1]) (fun j hj => by show (wuI (wuI (wuI m 50 0 f.toNat 0) 51 0 f.toNat 0) 52 0 f.toNat 0).1 52 0 j.toNat = _; rw [wuI_at (by omega) hj]; show (if j = f then (0 : Int) else m.1 52 0 j.toNat) = _; rw [hs.2.1]) (fun j hj => by show (wuI (wuI (wuI (wuI m 50 0 f.toNat 0) 51 0 f.toNat 0) 52 0 f.toNat 0) 53 0 f.toNat 0).1 53 0 j.toNat = _; rw [wuI_at (by omega) hj]; show (if j = f then (0 : Int) else m.1 53 0 j.toNat) = _; rw [hs.2.2.1]) hs.2.2.2
      have zk7 : k = 7 := by omega
      rw [zk7] at he hrw
      exact ww_rV rfl rfl ⟨rfl, rfl, zB_mono hGm8 (by omega), hFm8, ⟨hRm8, ⟨(by rw [hm8, hm6, hm4, hm2]; exact he), zZe_h (by omega) h50 (fun j => by rw [hm8, hm6, hm4, hm2]; rfl), zZe_h (by omega) hs.1 (fun j => by rw [hm8, hm6, hm4, hm2]; rfl), zZe_h (by omega) hs.2.1 (fun j => by rw [hm8, hm6, hm4, hm2]; rfl), (by rw [hm8, hm6, hm4, hm2]; exact hs.2.2.2), (by rw [hm8, hm6, hm4, hm2]; exact hrw)⟩⟩⟩
    · show wW (zK sc) zM195 8 [(0, .inr (.inr (.inl (some (34, 0))))), (1, .inl f), (2, .inl k)] [] _ _ _
      refine ww_go 6 (pc' := 15) (L' := [(0, .inr (.inr (.inl (some (34, 0))))), (1, .inl f), (2, .inl k)]) (st' := [.inl ((7 * f) + k), .inr (.inr (.inl (some (34, 0))))]) (m' := m) (o := none) rfl trivial ?_
      refine ww_call (vs := [.inr (.inr (.inl (some (34, 0)))), .inl ((7 * f) + k)]) (r := []) (p := 0 < 1) rfl rfl rfl rfl (show 0 < 1 from by omega) (yt199 (c := c) (by omega) ((7 * f) + k) hGm (by omega)) ?_
      rintro _ _ m12 ⟨rfl, rfl, hGm12, hEm12, hr11⟩
      have hFm12 : zfr (fun k i j => (k = 58) ∨ (k = 59) ∨ (k = 60) ∨ (k = 61) ∨ (k = 34 ∧ j = 30) ∨ (k = 54) ∨ (k = 55) ∨ (k = 57) ∨ (k = 50) ∨ (k = 51) ∨ (k = 52) ∨ (k = 53)) m0 m12 := zfr_tr hFm hEm12 (fun k i j z => Or.elim z (fun z => Or.inl z) (fun z => Or.elim z (fun z => Or.inr (Or.inl z)) (fun z => Or.elim z (fun z => Or.inr (Or.inr (Or.inl z))) (fun z => Or.elim z (fun z => Or.inr (Or.inr (Or.inr (Or.inl z)))) (fun z => Or.elim z (fun z => Or.inr (Or.inr (Or.inr (Or.inr (Or.inl z))))) (fun z => Or.elim z (fun z => Or.inr (Or.inr (Or.inr (Or.inr (Or.inr (Or.inl z)))))) (fun z => Or.elim z (fun z => Or.inr (Or.inr (Or.inr (Or.inr (Or.inr (Or.inr (Or.inl z))))))) (fun z => Or.inr (Or.inr (Or.inr (Or.inr (Or.inr (Or.inr (Or.inr (Or.inl z)))))))))))))))
      show wW (zK sc) zM195 18 [(0, .inr (.inr (.inl (some (34, 0))))), (1, .inl f), (2, .inl k)] [] _ _ _
      refine ww_go 2 (pc' := 2) (L' := [(2, .inl (k + 1)), (0, .inr (.inr (.inl (some (34, 0))))), (1, .inl f)]) (st' := []) (m' := m12) (o := none) rfl trivial ?_
      refine ww_sub (L := [(0, .inr (.inr (.inl (some (34, 0))))), (1, .inl f), (2, .inl (k + 1))]) ⟨rfl, rfl, rfl, trivial⟩ rfl rfl ?_
      exact (ih _ (by omega)) (k + 1) m12 rfl (zB_mono hGm12 (by omega)) hFm12 (by omega) (by exact zEm_s he hr11.1 (by omega)) (by exact ⟨Eq.trans (show m12.1 51 0 = m.1 51 0 from (by funext j; exact (hEm12 51 0 j (show ¬ ((51 = 58) ∨ (51 = 59) ∨ (51 = 60) ∨ (51 = 61) ∨ (51 = 34 ∧ j = 30) ∨ (51 = 54) ∨ (51 = 55) ∨ (51 = 57)) from by omega)).1)) hs.1, Eq.trans (show m12.1 52 0 = m.1 52 0 from (by funext j; exact (hEm12 52 0 j (show ¬ ((52 = 58) ∨ (52 = 59) ∨ (52 = 60) ∨ (52 = 61) ∨ (52 = 34 ∧ j = 30) ∨ (52 = 54) ∨ (52 = 55) ∨ (52 = 57)) from by omega)).1)) hs.2.1, Eq.trans (show m12.1 53 0 = m.1 53 0 from (by funext j; exact (hEm12 53 0 j (show ¬ ((53 = 58) ∨ (53 = 59) ∨ (53 = 60) ∨ (53 = 61) ∨ (53 = 34 ∧ j = 30) ∨ (53 = 54) ∨ (53 = 55) ∨ (53 = 57)) from by omega)).1)) hs.2.2.1, Eq.trans (show m12.1 56 0 = m.1 56 0 from (by funext j; exact (hEm12 56 0 j (show ¬ ((56 = 58) ∨ (56 = 59) ∨ (56 = 60) ∨ (56 = 61) ∨ (56 = 34 ∧ j = 30) ∨ (56 = 54) ∨ (56 = 55) ∨ (56 = 57)) from by omega)).1)) hs.2.2.2⟩) (by exact Eq.trans (show m12.1 50 0 = m.1 50 0 from (by funext j; exact (hEm12 50 0 j (show ¬ ((50 = 58) ∨ (50 = 59) ∨ (50 = 60) ∨ (50 = 61) ∨ (50 = 34 ∧ j = 30) ∨ (50 = 54) ∨ (50 = 55) ∨ (50 = 57)) from by omega)).1)) h50) (by rw [hr11.2, hrw]; exact zkp_s (by omega))
set_option maxRecDepth 8000 in
/-- Mo.empty -/
theorem yt195 {sc : xSc} {n : Nat × Nat} {m0 : wm} {c : Int} (hc : 0 ≤ c ∧ c ≤ 1000000) (f : Int) (hG : zB c m0) (hR : zRI m0) (h0 : 0 ≤ f ∧ f ≤ 7) : wX (zK sc) 195 [.inr (.inr (.inl (some (34, 0)))), .inl f] n m0 (wr (fun vv n1 m1 => vv = none ∧ n = n1 ∧ zB c m1 ∧ zfr (fun k i j => (k = 58) ∨ (k = 59) ∨ (k = 60) ∨ (k = 61) ∨ (k = 34 ∧ j = 30) ∨ (k = 54) ∨ (k = 55) ∨ (k = 57) ∨ (k = 50) ∨ (k = 51) ∨ (k = 52) ∨ (k = 53)) m0 m1 ∧ (zRI m1 ∧ (zEm m0 m1 f 7 ∧ zZe 50 m0 m1 f ∧ zZe 51 m0 m1 f ∧ zZe 52 m0 m1 f ∧ m1.1 56 0 = m0.1 56 0 ∧ zLR m1 = (zLR m0).filter (zkp f 7))))) := by
  refine wX_of (N := zM195) rfl (Nat.le_of_ble_eq_true rfl) ?_
  show wW (zK sc) zM195 0 [(0, .inr (.inr (.inl (some (34, 0))))), (1, .inl f)] [] n m0 _
  have hF : zfr (fun k i j => (k = 58) ∨ (k = 59) ∨ (k = 60) ∨ (k = 61) ∨ (k = 34 ∧ j = 30) ∨ (k = 54) ∨ (k = 55) ∨ (k = 57) ∨ (k = 50) ∨ (k = 51) ∨ (k = 52) ∨ (k = 53)) m0 m0 := zfr_rf
  refine ww_go 2 (pc' := 2) (L' := [(2, .inl 0), (0, .inr (.inr (.inl (some (34, 0))))), (1, .inl f)]) (st' := []) (m' := m0) (o := none) rfl trivial ?_
  refine ww_sub (L := [(0, .inr (.inr (.inl (some (34, 0))))), (1, .inl f), (2, .inl 0)]) ⟨rfl, rfl, rfl, trivial⟩ rfl rfl ?_
  exact (yt195_l2 hc f hG hR h0 _) 0 m0 rfl (zB_mono hG (by omega)) hF (by omega) (by exact zEm_0) (by exact ⟨rfl, rfl, rfl, rfl⟩) (by rfl) (by exact zkp_0.symm)
set_option maxRecDepth 8000 in
theorem yt187_l33 {sc : xSc} {n : Nat × Nat} {m0 : wm} {c : Int} (hc : 0 ≤ c ∧ c ≤ 1000000) (f : Int) (hG : zB c m0) (h0 : 0 ≤ f ∧ f ≤ 7) : ∀ (d : Nat), ∀ (i : Int) (m : wm), (7 * f + 7 - i).toNat = d → zB c m → zfr (fun k i j => (k = 50) ∨ (k = 51) ∨ (k = 52) ∨ (k = 53) ∨ (k = 54) ∨ (k = 57) ∨ (k = 55)) m0 m → (7 * f ≤ i ∧ i ≤ 7 * f + 7) → (zEm m0 m f (i - 7 * f)) → (zZe 51 m0 m f ∧ zZe 52 m0 m f ∧ zZe 53 m0 m f ∧ zZe 50 m0 m f) →  wW (zK sc) zM187 33 [(0, .inr (.inr (.inl (some (34, 0))))), (1, .inl f), (2, .inl i)] [] n m (wr (fun vv n1 m1 => vv = none ∧ n = n1 ∧ zB c m1 ∧ zfr (fun k i j => (k = 50) ∨ (k = 51) ∨ (k = 52) ∨ (k = 53) ∨ (k = 54) ∨ (k = 57) ∨ (k = 55)) m0 m1 ∧ (zEm m0 m1 f 7 ∧ zZe 51 m0 m1 f ∧ zZe 52 m0 m1 f ∧ zZe 53 m0 m1 f ∧ zZe 50 m0 m1 f))) := by
  intro d
  induction d using Nat.strongRecOn with
  | ind d ih =>
    intro i m hd hGm hFm hi he hz
    refine ww_go 6 (pc' := 41) (L' := [(0, .inr (.inr (.inl (some (34, 0))))), (1, .inl f), (2, .inl i)]) (st' := [.inl ((7 * f) + 7), .inl i]) (m' := m) (o := none) rfl trivial ?_
    refine ww_ic (t := 84) rfl rfl (by omega) (fun (h1 : (7 * f) + 7 ≤ i) => ?_) (fun (h1 : ¬ ((7 * f) + 7 ≤ i)) => ?_)
    · show wW (zK sc) zM187 84 [(0, .inr (.inr (.inl (some (34, 0))))), (1, .inl f), (2, .inl i)] [] _ _ _
      exact ww_rV rfl rfl ⟨rfl, rfl, zB_mono hGm (by omega), hFm, ⟨by have z : i - 7 * f = 7 := (by omega); rw [z] at he; exact he, hz⟩⟩
    · show wW (zK sc) zM187 44 [(0, .inr (.inr (.inl (some (34, 0))))), (1, .inl f), (2, .inl i)] [] _ _ _
      refine ww_go 5 (pc' := 51) (L' := [(0, .inr (.inr (.inl (some (34, 0))))), (1, .inl f), (2, .inl i)]) (st' := []) (m' := wuI m 54 0 i.toNat ((-1))) (o := some ((0 < 1) ∧ (0 < 1 ∧ 0 ≤ i ∧ i < ((56 : Nat) : Int)))) rfl (show (0 < 1) ∧ (0 < 1 ∧ 0 ≤ i ∧ i < ((56 : Nat) : Int)) from by omega) ?_
      obtain ⟨m2, hm2⟩ : ∃ zq9 : wm, zq9 = wuI m 54 0 i.toNat ((-1)) := ⟨_, rfl⟩
      rw [← hm2]
      have hGm2 : zB c m2 := by rw [hm2]; exact zB_wI rfl (show (-1) ≤ ((-1) : Int) ∧ ((-1) : Int) ≤ 104 from by omega) hGm
      have hFm2 : zfr (fun k i j => (k = 50) ∨ (k = 51) ∨ (k = 52) ∨ (k = 53) ∨ (k = 54) ∨ (k = 57) ∨ (k = 55)) m0 m2 := by rw [hm2]; exact zfr_wI hFm (show (54 = 50) ∨ (54 = 51) ∨ (54 = 52) ∨ (54 = 53) ∨ (54 = 54) ∨ (54 = 57) ∨ (54 = 55) from Or.inr (Or.inr (Or.inr (Or.inr (Or.inl rfl)))))
      have s3 : m2.1 54 0 i.toNat = ((-1) : Int) := by rw [hm2]; exact wuI_self
      refine ww_go 5 (pc' := 58) (L' := [(0, .inr (.inr (.inl (some (34, 0))))), (1, .inl f), (2, .inl i)]) (st' := []) (m' := wuI m2 57 0 i.toNat 0) (o := some ((0 < 1) ∧ (0 < 1 ∧ 0 ≤ i ∧ i < ((56 : Nat) : Int) ∧ 0 ≤ (0 : Int) ∧ (0 : Int) ≤ 1))) rfl (show (0 < 1) ∧ (0 < 1 ∧ 0 ≤ i ∧ i < ((56 : Nat) : Int) ∧ 0 ≤ (0 : Int) ∧ (0 : Int) ≤ 1) from by omega) ?_
      obtain ⟨m4, hm4⟩ : ∃ zq9 : wm, zq9 = wuI m2 57 0 i.toNat 0 := ⟨_, rfl⟩
      rw [← hm4]
      have hGm4 : zB c m4 := by rw [hm4]; exact zB_wI rfl (show 0 ≤ (0 : Int) ∧ (0 : Int) ≤ 1 from by omega) hGm2
      have hFm4 : zfr (fun k i j => (k = 50) ∨ (k = 51) ∨ (k = 52) ∨ (k = 53) ∨ (k = 54) ∨ (k = 57) ∨ (k = 55)) m0 m4 := by rw [hm4]; exact zfr_wI hFm2 (show (57 = 50) ∨ (57 = 51) ∨ (57 = 52) ∨ (57 = 53) ∨ (57 = 54) ∨ (57 = 57) ∨ (57 = 55) from Or.inr (Or.inr (Or.inr (Or.inr (Or.inr (Or.inl rfl))))))
      have s5 : m4.1 57 0 i.toNat = (0 : Int) := by rw [hm4]; exact wuI_self
      refine ww_go 7 (pc' := 67) (L' := [(0, .inr (.inr (.inl (some (34, 0))))), (1, .inl f), (2, .inl i)]) (st' := []) (m' := wuI m4 55 0 ((2 * i).toNat) 0) (o := some ((0 < 1) ∧ (0 < 1 ∧ 0 ≤ 2 * i ∧ 2 * i < ((112 : Nat) : Int) ∧ 0 ≤ (0 : Int) ∧ (0 : Int) ≤ 1))) rfl (show (0 < 1) ∧ (0 < 1 ∧ 0 ≤ 2 * i ∧ 2 * i < ((112 : Nat) : Int) ∧ 0 ≤ (0 : Int) ∧ (0 : Int) ≤ 1) from by omega) ?_
      obtain ⟨m6, hm6⟩ : ∃ zq9 : wm, zq9 = wuI m4 55 0 ((2 * i).toNat) 0 := ⟨_, rfl⟩
      rw [← hm6]
      have hGm6 : zB c m6 := by rw [hm6]; exact zB_wI rfl (show 0 ≤ (0 : Int) ∧ (0 : Int) ≤ 1 from by omega) hGm4
      have hFm6 : zfr (fun k i j => (k = 50) ∨ (k = 51) ∨ (k = 52) ∨ (k = 53) ∨ (k = 54) ∨ (k = 57) ∨ (k = 55)) m0 m6 := by rw [hm6]; exact zfr_wI hFm4 (show (55 = 50) ∨ (55 = 51) ∨ (55 = 52) ∨ (55 = 53) ∨ (55 = 54) ∨ (55 = 57) ∨ (55 = 55) from Or.inr (Or.inr (Or.inr (Or.inr (Or.inr (Or.inr (rfl)))))))
      have s7 : m6.1 55 0 ((2 * i).toNat) = (0 : Int) := by rw [hm6]; exact wuI_self
      refine ww_go 9 (pc' := 78) (L' := [(0, .inr (.inr (.inl (some (34, 0))))), (1, .inl f), (2, .inl i)]) (st' := []) (m' := wuI m6 55 0 (((2 * i) + 1).toNat) 0) (o := some ((0 < 1) ∧ (0 < 1 ∧ 0 ≤ (2 * i) + 1 ∧ (2 * i) + 1 < ((112 : Nat) : Int) ∧ 0 ≤ (0 : Int) ∧ (0 : Int) ≤ 1))) rfl (show (0 < 1) ∧ (0 < 1 ∧ 0 ≤ (2 * i) + 1 ∧ (2 * i) + 1 < ((112 : Nat) : Int) ∧ 0 ≤ (0 : Int) ∧ (0 : Int) ≤ 1) from by omega) ?_
      obtain ⟨m8, hm8⟩ : ∃ zq9 : wm, zq9 = wuI m6 55 0 (((2 * i) + 1).toNat) 0 := ⟨_, rfl⟩
      rw [← hm8]
      have hGm8 : zB c m8 := by rw [hm8]; exact zB_wI rfl (show 0 ≤ (0 : Int) ∧ (0 : Int) ≤ 1 from by omega) hGm6
      have hFm8 : zfr (fun k i j => (k = 50) ∨ (k = 51) ∨ (k = 52) ∨ (k = 53) ∨ (k = 54) ∨ (k = 57) ∨ (k = 55)) m0 m8 := by rw [hm8]; exact zfr_wI hFm6 (show (55 = 50) ∨ (55 = 51) ∨ (55 = 52) ∨ (55 = 53) ∨ (55 = 54) ∨ (55 = 57) ∨ (55 = 55) from Or.inr (Or.inr (Or.inr (Or.inr (Or.inr (Or.inr (rfl)))))))
      have s9 : m8.1 55 0 (((2 * i) + 1).toNat) = (0 : Int) := by rw [hm8]; exact wuI_self
      refine ww_go 2 (pc' := 33) (L' := [(2, .inl (i + 1)), (0, .inr (.inr (.inl (some (34, 0))))), (1, .inl f)]) (st' := []) (m' := m8) (o := none) rfl trivial ?_
      refine ww_sub (L := [(0, .inr (.inr (.inl (some (34, 0))))), (1, .inl f), (2, .inl (i + 1))]) ⟨rfl, rfl, rfl, trivial⟩ rfl rfl ?_
      exact (ih _ (by omega)) (i + 1) m8 rfl (zB_mono hGm8 (by omega)) hFm8 (by omega) (by rw [hm8, hm6, hm4, hm2]; have z := zEm_w (q := i) he (by omega) (by omega); rwa [show i - 7 * f + 1 = i + 1 - 7 * f from by omega] at z) (by rw [hm8, hm6, hm4, hm2]; exact hz)
set_option maxRecDepth 8000 in
/-- Mo.clear -/
theorem yt187 {sc : xSc} {n : Nat × Nat} {m0 : wm} {c : Int} (hc : 0 ≤ c ∧ c ≤ 1000000) (f : Int) (hG : zB c m0) (h0 : 0 ≤ f ∧ f ≤ 7) : wX (zK sc) 187 [.inr (.inr (.inl (some (34, 0)))), .inl f] n m0 (wr (fun vv n1 m1 => vv = none ∧ n = n1 ∧ zB c m1 ∧ zfr (fun k i j => (k = 50) ∨ (k = 51) ∨ (k = 52) ∨ (k = 53) ∨ (k = 54) ∨ (k = 57) ∨ (k = 55)) m0 m1 ∧ (zEm m0 m1 f 7 ∧ zZe 51 m0 m1 f ∧ zZe 52 m0 m1 f ∧ zZe 53 m0 m1 f ∧ zZe 50 m0 m1 f))) := by
  refine wX_of (N := zM187) rfl (Nat.le_of_ble_eq_true rfl) ?_
  show wW (zK sc) zM187 0 [(0, .inr (.inr (.inl (some (34, 0))))), (1, .inl f)] [] n m0 _
  have hF : zfr (fun k i j => (k = 50) ∨ (k = 51) ∨ (k = 52) ∨ (k = 53) ∨ (k = 54) ∨ (k = 57) ∨ (k = 55)) m0 m0 := zfr_rf
  refine ww_go 5 (pc' := 7) (L' := [(0, .inr (.inr (.inl (some (34, 0))))), (1, .inl f)]) (st' := []) (m' := wuI m0 50 0 f.toNat 0) (o := some ((0 < 1) ∧ (0 < 1 ∧ 0 ≤ f ∧ f < ((8 : Nat) : Int)))) rfl (show (0 < 1) ∧ (0 < 1 ∧ 0 ≤ f ∧ f < ((8 : Nat) : Int)) from by omega) ?_
  obtain ⟨m1, hm1⟩ : ∃ zq9 : wm, zq9 = wuI m0 50 0 f.toNat 0 := ⟨_, rfl⟩
  rw [← hm1]
  have hGm1 : zB c m1 := by rw [hm1]; exact zB_wI rfl (show 0 ≤ (0 : Int) ∧ (0 : Int) ≤ 65535 from by omega) hG
  have hFm1 : zfr (fun k i j => (k = 50) ∨ (k = 51) ∨ (k = 52) ∨ (k = 53) ∨ (k = 54) ∨ (k = 57) ∨ (k = 55)) m0 m1 := by rw [hm1]; exact zfr_wI hF (show (50 = 50) ∨ (50 = 51) ∨ (50 = 52) ∨ (50 = 53) ∨ (50 = 54) ∨ (50 = 57) ∨ (50 = 55) from Or.inl rfl)
  have s2 : m1.1 50 0 f.toNat = (0 : Int) := by rw [hm1]; exact wuI_self
  refine ww_go 5 (pc' := 14) (L' := [(0, .inr (.inr (.inl (some (34, 0))))), (1, .inl f)]) (st' := []) (m' := wuI m1 51 0 f.toNat 0) (o := some ((0 < 1) ∧ (0 < 1 ∧ 0 ≤ f ∧ f < ((8 : Nat) : Int) ∧ 0 ≤ (0 : Int) ∧ (0 : Int) ≤ 1))) rfl (show (0 < 1) ∧ (0 < 1 ∧ 0 ≤ f ∧ f < ((8 : Nat) : Int) ∧ 0 ≤ (0 : Int) ∧ (0 : Int) ≤ 1) from by omega) ?_
  obtain ⟨m3, hm3⟩ : ∃ zq9 : wm, zq9 = wuI m1 51 0 f.toNat 0 := ⟨_, rfl⟩
  rw [← hm3]
  have hGm3 : zB c m3 := by rw [hm3]; exact zB_wI rfl (show 0 ≤ (0 : Int) ∧ (0 : Int) ≤ 1 from by omega) hGm1
  have hFm3 : zfr (fun k i j => (k = 50) ∨ (k = 51) ∨ (k = 52) ∨ (k = 53) ∨ (k = 54) ∨ (k = 57) ∨ (k = 55)) m0 m3 := by rw [hm3]; exact zfr_wI hFm1 (show (51 = 50) ∨ (51 = 51) ∨ (51 = 52) ∨ (51 = 53) ∨ (51 = 54) ∨ (51 = 57) ∨ (51 = 55) from Or.inr (Or.inl rfl))
  have s4 : m3.1 51 0 f.toNat = (0 : Int) := by rw [hm3]; exact wuI_self
  refine ww_go 5 (pc' := 21) (L' := [(0, .inr (.inr (.inl (some (34, 0))))), (1, .inl f)]) (st' := []) (m' := wuI m3 52 0 f.toNat 0) (o := some ((0 < 1) ∧ (0 < 1 ∧ 0 ≤ f ∧ f < ((8 : Nat) : Int)))) rfl (show (0 < 1) ∧ (0 < 1 ∧ 0 ≤ f ∧ f < ((8 : Nat) : Int)) from by omega) ?_
  obtain ⟨m5, hm5⟩ : ∃ zq9 : wm, zq9 = wuI m3 52 0 f.toNat 0 := ⟨_, rfl⟩
  rw [← hm5]
  have hGm5 : zB c m5 := by rw [hm5]; exact zB_wI rfl (show 0 ≤ (0 : Int) ∧ (0 : Int) ≤ 6 from by omega) hGm3
  have hFm5 : zfr (fun k i j => (k = 50) ∨ (k = 51) ∨ (k = 52) ∨ (k = 53) ∨ (k = 54) ∨ (k = 57) ∨ (k = 55)) m0 m5 := by rw [hm5]; exact zfr_wI hFm3 (show (52 = 50) ∨ (52 = 51) ∨ (52 = 52) ∨ (52 = 53) ∨ (52 = 54) ∨ (52 = 57) ∨ (52 = 55) from Or.inr (Or.inr (Or.inl rfl)))
  have s6 : m5.1 52 0 f.toNat = (0 : Int) := by rw [hm5]; exact wuI_self
  refine ww_go 5 (pc' := 28) (L' := [(0, .inr (.inr (.inl (some (34, 0))))), (1, .inl f)]) (st' := []) (m' := wuI m5 53 0 f.toNat 0) (o := some ((0 < 1) ∧ (0 < 1 ∧ 0 ≤ f ∧ f < ((8 : Nat) : Int)))) rfl (show (0 < 1) ∧ (0 < 1 ∧ 0 ≤ f ∧ f < ((8 : Nat) : Int)) from by omega) ?_
  obtain ⟨m7, hm7⟩ : ∃ zq9 : wm, zq9 = wuI m5 53 0 f.toNat 0 := ⟨_, rfl⟩
  rw [← hm7]
  have hGm7 : zB c m7 := by rw [hm7]; exact zB_wI rfl (show 0 ≤ (0 : Int) ∧ (0 : Int) ≤ 2 from by omega) hGm5
  have hFm7 : zfr (fun k i j => (k = 50) ∨ (k = 51) ∨ (k = 52) ∨ (k = 53) ∨ (k = 54) ∨ (k = 57) ∨ (k = 55)) m0 m7 := by rw [hm7]; exact zfr_wI hFm5 (show (53 = 50) ∨ (53 = 51) ∨ (53 = 52) ∨ (53 = 53) ∨ (53 = 54) ∨ (53 = 57) ∨ (53 = 55) from Or.inr (Or.inr (Or.inr (Or.inl rfl))))
  have s8 : m7.1 53 0 f.toNat = (0 : Int) := by rw [hm7]; exact wuI_self
  refine ww_go 4 (pc' := 33) (L' := [(2, .inl (7 * f)), (0, .inr (.inr (.inl (some (34, 0))))), (1, .inl f)]) (st' := []) (m' := m7) (o := none) rfl trivial ?_
  refine ww_sub (L := [(0, .inr (.inr (.inl (some (34, 0))))), (1, .inl f), (2, .inl (7 * f))]) ⟨rfl, rfl, rfl, trivial⟩ rfl rfl ?_
  exact (yt187_l33 hc f hG h0 _) (7 * f) m7 rfl (zB_mono hGm7 (by omega)) hFm7 (by omega) (by rw [show 7 * f - 7 * f = 0 from by omega]; rw [hm7, hm5, hm3, hm1]; exact (zEm_0 : zEm m0 m0 f 0)) (by rw [hm7, hm5, hm3, hm1]; exact ⟨(fun j hj => by show (wuI (wuI m0 50 0 f.toNat 0) 51 0 f.toNat 0).1 51 0 j.toNat = _; rw [wuI_at (by omega) hj]; rfl), (fun j hj => by show (wuI (wuI (wuI m0 50 0 f.toNat 0) 51 0 f.toNat 0) 52 0 f.toNat 0).1 52 0 j.toNat = _; rw [wuI_at (by omega) hj]; rfl), (fun j hj => by show (wuI (wuI (wuI (wuI m0 50 0 f.toNat 0) 51 0 f.toNat 0) 52 0 f.toNat 0) 53 0 f.toNat 0).1 53 0 j.toNat = _; rw [wuI_at (by omega) hj]; rfl), (fun j hj => by show (wuI m0 50 0 f.toNat 0).1 50 0 j.toNat = _; rw [wuI_at (by omega) hj])⟩)
set_option maxRecDepth 8000 in
theorem yt244_l191 {sc : xSc} {n : Nat × Nat} {m0 : wm} {c : Int} (hc : 0 ≤ c ∧ c ≤ 1000000) (f : Int) (hG : zB c m0) (hR : zRI m0) (h0 : 1 ≤ f ∧ f ≤ 7) : ∀ (d : Nat), ∀ (k : Int) (m : wm), (24 - k).toNat = d → zB c m → zfr (fun k i j => (k = 50) ∨ (k = 51) ∨ (k = 52) ∨ (k = 53) ∨ (k = 54) ∨ (k = 57) ∨ (k = 55) ∨ (k = 56) ∨ (k = 58)) m0 m → (0 ≤ k ∧ k ≤ 24) → (zCp 50 m0 m (f - 1) (f) 1) → (zCp 51 m0 m (f - 1) (f) 1) → (zCp 52 m0 m (f - 1) (f) 1) → (zCp 53 m0 m (f - 1) (f) 1) → (zCp 54 m0 m (7 * f - 7) (7 * f) 7) → (zCp 55 m0 m (14 * f - 14) (14 * f) 14) → (zCp 56 m0 m (728 * f - 728) (728 * f) 728) → (zCp 57 m0 m (7 * f - 7) (7 * f) 7) → (zSi1 m0 m f k) →  wW (zK sc) zM244 191 [(0, .inr (.inr (.inl (some (34, 0))))), (1, .inl f), (2, .inl k)] [] n m (wr (fun vv n1 m1 => vv = none ∧ n = n1 ∧ zB c m1 ∧ zfr (fun k i j => (k = 50) ∨ (k = 51) ∨ (k = 52) ∨ (k = 53) ∨ (k = 54) ∨ (k = 57) ∨ (k = 55) ∨ (k = 56) ∨ (k = 58)) m0 m1 ∧ (zRI m1 ∧ (zShf m0 m1 f)))) := by
  intro d
  induction d using Nat.strongRecOn with
  | ind d ih =>
    intro k m hd hGm hFm hi q50 q51 q52 q53 q54 q55 q56 q57 hS
    have k58 : m.1 58 0 k.toNat = m0.1 58 0 k.toNat := by rw [hS.2 k.toNat, if_neg (by omega)]
    have k30 : m.1 34 0 30 = m0.1 34 0 30 := hS.1
    have b1 : 0 ≤ m.1 34 0 30 ∧ m.1 34 0 30 ≤ 24 := hGm.1 34 _ rfl _ _
    refine ww_go 3 (pc' := 196) (L' := [(0, .inr (.inr (.inl (some (34, 0))))), (1, .inl f), (2, .inl k)]) (st' := [.inl (m.1 34 0 30), .inl k]) (m' := m) (o := some ((0 < 1))) rfl (show (0 < 1) from by omega) ?_
    refine ww_ic (t := 242) rfl rfl (by omega) (fun (h2 : m.1 34 0 30 ≤ k) => ?_) (fun (h2 : ¬ (m.1 34 0 30 ≤ k)) => ?_)
    · show wW (zK sc) zM244 242 [(0, .inr (.inr (.inl (some (34, 0))))), (1, .inl f), (2, .inl k)] [] _ _ _
      refine ww_go 2 (pc' := 244) (L' := [(0, .inr (.inr (.inl (some (34, 0))))), (1, .inl f), (2, .inl k)]) (st' := [.inl f, .inr (.inr (.inl (some (34, 0))))]) (m' := m) (o := none) rfl trivial ?_
      refine ww_call (vs := [.inr (.inr (.inl (some (34, 0)))), .inl f]) (r := []) (p := 0 < 1) rfl rfl rfl rfl (show 0 < 1 from by omega) (yt187 (c := c) (by omega) f hGm (by omega)) ?_
      rintro _ _ m5 ⟨rfl, rfl, hGm5, hEm5, hr4⟩
      have hFm5 : zfr (fun k i j => (k = 50) ∨ (k = 51) ∨ (k = 52) ∨ (k = 53) ∨ (k = 54) ∨ (k = 57) ∨ (k = 55) ∨ (k = 56) ∨ (k = 58)) m0 m5 := zfr_tr hFm hEm5 (fun k i j z => Or.elim z (fun z => Or.inl z) (fun z => Or.elim z (fun z => Or.inr (Or.inl z)) (fun z => Or.elim z (fun z => Or.inr (Or.inr (Or.inl z))) (fun z => Or.elim z (fun z => Or.inr (Or.inr (Or.inr (Or.inl z)))) (fun z => Or.elim z (fun z => Or.inr (Or.inr (Or.inr (Or.inr (Or.inl z))))) (fun z => Or.elim z (fun z => Or.inr (Or.inr (Or.inr (Or.inr (Or.inr (Or.inl z)))))) (fun z => Or.inr (Or.inr (Or.inr (Or.inr (Or.inr (Or.inr (Or.inl z)))))))))))))
      have hRm5 : zRI m5 := zRI_sh hR (zB_ct hG) (by omega) q51 q52 q53 q54 q55 q57 q56 (hr4).1 (hr4).2.1 (hr4).2.2.1 (hr4).2.2.2.1 (by funext j; exact (hEm5 56 0 j (show ¬ ((56 = 50) ∨ (56 = 51) ∨ (56 = 52) ∨ (56 = 53) ∨ (56 = 54) ∨ (56 = 57) ∨ (56 = 55)) from by omega)).1)
      show wW (zK sc) zM244 247 [(0, .inr (.inr (.inl (some (34, 0))))), (1, .inl f), (2, .inl k)] [] _ _ _
      have zL9 : zLR m = (zLR m0).map (zsh f) := zSi1_L hS (by omega) (fun j => (hFm 59 0 j (show ¬ ((59 = 50) ∨ (59 = 51) ∨ (59 = 52) ∨ (59 = 53) ∨ (59 = 54) ∨ (59 = 57) ∨ (59 = 55) ∨ (59 = 56) ∨ (59 = 58)) from by omega)).1) (fun j => (hFm 60 0 j (show ¬ ((60 = 50) ∨ (60 = 51) ∨ (60 = 52) ∨ (60 = 53) ∨ (60 = 54) ∨ (60 = 57) ∨ (60 = 55) ∨ (60 = 56) ∨ (60 = 58)) from by omega)).1) (fun j => (hFm 61 0 j (show ¬ ((61 = 50) ∨ (61 = 51) ∨ (61 = 52) ∨ (61 = 53) ∨ (61 = 54) ∨ (61 = 57) ∨ (61 = 55) ∨ (61 = 56) ∨ (61 = 58)) from by omega)).2.1)
      have zL8 : zLR m5 = zLR m := by unfold zLR zRu; rw [(hEm5 34 0 30 (show ¬ ((34 = 50) ∨ (34 = 51) ∨ (34 = 52) ∨ (34 = 53) ∨ (34 = 54) ∨ (34 = 57) ∨ (34 = 55)) from by omega)).1]; exact List.map_congr_left fun j _ => (by rw [(hEm5 58 0 j (show ¬ ((58 = 50) ∨ (58 = 51) ∨ (58 = 52) ∨ (58 = 53) ∨ (58 = 54) ∨ (58 = 57) ∨ (58 = 55)) from by omega)).1, (hEm5 59 0 j (show ¬ ((59 = 50) ∨ (59 = 51) ∨ (59 = 52) ∨ (59 = 53) ∨ (59 = 54) ∨ (59 = 57) ∨ (59 = 55)) from by omega)).1, (hEm5 60 0 j (show ¬ ((60 = 50) ∨ (60 = 51) ∨ (60 = 52) ∨ (60 = 53) ∨ (60 = 54) ∨ (60 = 57) ∨ (60 = 55)) from by omega)).1, (hEm5 61 0 j (show ¬ ((61 = 50) ∨ (61 = 51) ∨ (61 = 52) ∨ (61 = 53) ∨ (61 = 54) ∨ (61 = 57) ∨ (61 = 55)) from by omega)).2.1])
      exact ww_rV rfl rfl ⟨rfl, rfl, zB_mono hGm5 (by omega), hFm5, ⟨hRm5, ⟨zSf_1 q50 hr4.2.2.2.2 (by omega), zSf_1 q51 hr4.2.1 (by omega), zSf_1 q52 hr4.2.2.1 (by omega), zSf_7 q54 hr4.1.2.1 (by omega), zSf_7 q57 hr4.1.1 (by omega), zSf_14 q55 hr4.1.2.2 (by omega), (fun j hj => ((hEm5 56 0 j.toNat (show ¬ ((56 = 50) ∨ (56 = 51) ∨ (56 = 52) ∨ (56 = 53) ∨ (56 = 54) ∨ (56 = 57) ∨ (56 = 55)) from by omega)).1).trans (q56 j hj)), zL8.trans zL9⟩⟩⟩
    · show wW (zK sc) zM244 199 [(0, .inr (.inr (.inl (some (34, 0))))), (1, .inl f), (2, .inl k)] [] _ _ _
      have b6 : 0 ≤ m.1 58 0 k.toNat ∧ m.1 58 0 k.toNat ≤ 55 := hGm.1 58 _ rfl _ _
      have t7 : (0 ≤ (m.1 58 0 k.toNat) → (m.1 58 0 k.toNat).tdiv 7 = (m.1 58 0 k.toNat) / 7) ∧ ((m.1 58 0 k.toNat) < 0 → (m.1 58 0 k.toNat).tdiv 7 = -((-((m.1 58 0 k.toNat))) / 7)) := ⟨fun z => Int.tdiv_eq_ediv_of_nonneg z, fun z => wtdiv_neg z⟩
      refine ww_go 10 (pc' := 214) (L' := [(0, .inr (.inr (.inl (some (34, 0))))), (1, .inl f), (2, .inl k)]) (st' := [.inl f, .inl ((m.1 58 0 k.toNat).tdiv 7), .inl k, .inr (.inr (.inl (some (58, 0))))]) (m' := m) (o := some ((0 < 1) ∧ (0 < 1) ∧ (0 < 1 ∧ 0 ≤ k ∧ k < ((24 : Nat) : Int)) ∧ (-2147483648 ≤ m.1 58 0 k.toNat ∧ m.1 58 0 k.toNat ≤ 2147483647 ∧ 0 < (7 : Int) ∧ (7 : Int) ≤ 2147483647))) rfl (show (0 < 1) ∧ (0 < 1) ∧ (0 < 1 ∧ 0 ≤ k ∧ k < ((24 : Nat) : Int)) ∧ (-2147483648 ≤ m.1 58 0 k.toNat ∧ m.1 58 0 k.toNat ≤ 2147483647 ∧ 0 < (7 : Int) ∧ (7 : Int) ≤ 2147483647) from by omega) ?_
      refine ww_ic (t := 229) rfl rfl (by omega) (fun (h8 : (m.1 58 0 k.toNat).tdiv 7 ≠ f) => ?_) (fun (h8 : ¬ ((m.1 58 0 k.toNat).tdiv 7 ≠ f)) => ?_)
      · show wW (zK sc) zM244 229 [(0, .inr (.inr (.inl (some (34, 0))))), (1, .inl f), (2, .inl k)] [.inl k, .inr (.inr (.inl (some (58, 0))))] _ _ _
        have b9 : 0 ≤ m.1 58 0 k.toNat ∧ m.1 58 0 k.toNat ≤ 55 := hGm.1 58 _ rfl _ _
        refine ww_go 5 (pc' := 236) (L' := [(0, .inr (.inr (.inl (some (34, 0))))), (1, .inl f), (2, .inl k)]) (st' := []) (m' := wuI m 58 0 k.toNat (m.1 58 0 k.toNat)) (o := some ((0 < 1) ∧ (0 < 1 ∧ 0 ≤ k ∧ k < ((24 : Nat) : Int)) ∧ (0 < 1 ∧ 0 ≤ k ∧ k < ((24 : Nat) : Int)))) rfl (show (0 < 1) ∧ (0 < 1 ∧ 0 ≤ k ∧ k < ((24 : Nat) : Int)) ∧ (0 < 1 ∧ 0 ≤ k ∧ k < ((24 : Nat) : Int)) from by omega) ?_
        obtain ⟨m10, hm10⟩ : ∃ zq9 : wm, zq9 = wuI m 58 0 k.toNat (m.1 58 0 k.toNat) := ⟨_, rfl⟩
        rw [← hm10]
        have hGm10 : zB c m10 := by rw [hm10]; exact zB_wI rfl (show 0 ≤ m.1 58 0 k.toNat ∧ m.1 58 0 k.toNat ≤ 55 from by omega) hGm
        have hFm10 : zfr (fun k i j => (k = 50) ∨ (k = 51) ∨ (k = 52) ∨ (k = 53) ∨ (k = 54) ∨ (k = 57) ∨ (k = 55) ∨ (k = 56) ∨ (k = 58)) m0 m10 := by rw [hm10]; exact zfr_wI hFm (show (58 = 50) ∨ (58 = 51) ∨ (58 = 52) ∨ (58 = 53) ∨ (58 = 54) ∨ (58 = 57) ∨ (58 = 55) ∨ (58 = 56) ∨ (58 = 58) from Or.inr (Or.inr (Or.inr (Or.inr (Or.inr (Or.inr (Or.inr (Or.inr (rfl)))))))))
        have s11 : m10.1 58 0 k.toNat = m.1 58 0 k.toNat := by rw [hm10]; exact wuI_self
        have cp12 : zCp 50 m0 m10 (f - 1) (f) 1 := by rw [hm10]; exact q50
        have cp13 : zCp 51 m0 m10 (f - 1) (f) 1 := by rw [hm10]; exact q51
        have cp14 : zCp 52 m0 m10 (f - 1) (f) 1 := by rw [hm10]; exact q52
        have cp15 : zCp 53 m0 m10 (f - 1) (f) 1 := by rw [hm10]; exact q53
        have cp16 : zCp 54 m0 m10 (7 * f - 7) (7 * f) 7 := by rw [hm10]; exact q54
        have cp17 : zCp 55 m0 m10 (14 * f - 14) (14 * f) 14 := by rw [hm10]; exact q55
        have cp18 : zCp 56 m0 m10 (728 * f - 728) (728 * f) 728 := by rw [hm10]; exact q56
        have cp19 : zCp 57 m0 m10 (7 * f - 7) (7 * f) 7 := by rw [hm10]; exact q57
        refine ww_go 2 (pc' := 191) (L' := [(2, .inl (k + 1)), (0, .inr (.inr (.inl (some (34, 0))))), (1, .inl f)]) (st' := []) (m' := m10) (o := none) rfl trivial ?_
        refine ww_sub (L := [(0, .inr (.inr (.inl (some (34, 0))))), (1, .inl f), (2, .inl (k + 1))]) ⟨rfl, rfl, rfl, trivial⟩ rfl rfl ?_
        exact (ih _ (by omega)) (k + 1) m10 rfl (zB_mono hGm10 (by omega)) hFm10 (by omega) (by exact zCp_hi cp12 (by omega)) (by exact zCp_hi cp13 (by omega)) (by exact zCp_hi cp14 (by omega)) (by exact zCp_hi cp15 (by omega)) (by exact zCp_hi cp16 (by omega)) (by exact zCp_hi cp17 (by omega)) (by exact zCp_hi cp18 (by omega)) (by exact zCp_hi cp19 (by omega)) (by exact zSi1_s hS (by omega) hm10 (by first | (rw [if_pos (by omega)]; omega) | (rw [if_neg (by omega)]; omega)))
      · show wW (zK sc) zM244 217 [(0, .inr (.inr (.inl (some (34, 0))))), (1, .inl f), (2, .inl k)] [.inl k, .inr (.inr (.inl (some (58, 0))))] _ _ _
        have b20 : 0 ≤ m.1 58 0 k.toNat ∧ m.1 58 0 k.toNat ≤ 55 := hGm.1 58 _ rfl _ _
        refine ww_go 8 (pc' := 236) (L' := [(0, .inr (.inr (.inl (some (34, 0))))), (1, .inl f), (2, .inl k)]) (st' := []) (m' := wuI m 58 0 k.toNat ((m.1 58 0 k.toNat) - 7)) (o := some ((0 < 1) ∧ (0 < 1 ∧ 0 ≤ k ∧ k < ((24 : Nat) : Int)) ∧ (0 < 1 ∧ 0 ≤ k ∧ k < ((24 : Nat) : Int)))) rfl (show (0 < 1) ∧ (0 < 1 ∧ 0 ≤ k ∧ k < ((24 : Nat) : Int)) ∧ (0 < 1 ∧ 0 ≤ k ∧ k < ((24 : Nat) : Int)) from by omega) ?_
        obtain ⟨m21, hm21⟩ : ∃ zq9 : wm, zq9 = wuI m 58 0 k.toNat ((m.1 58 0 k.toNat) - 7) := ⟨_, rfl⟩
        rw [← hm21]
        have hGm21 : zB c m21 := by rw [hm21]; exact zB_wI rfl (show 0 ≤ (m.1 58 0 k.toNat) - 7 ∧ (m.1 58 0 k.toNat) - 7 ≤ 55 from by omega) hGm
        have hFm21 : zfr (fun k i j => (k = 50) ∨ (k = 51) ∨ (k = 52) ∨ (k = 53) ∨ (k = 54) ∨ (k = 57) ∨ (k = 55) ∨ (k = 56) ∨ (k = 58)) m0 m21 := by rw [hm21]; exact zfr_wI hFm (show (58 = 50) ∨ (58 = 51) ∨ (58 = 52) ∨ (58 = 53) ∨ (58 = 54) ∨ (58 = 57) ∨ (58 = 55) ∨ (58 = 56) ∨ (58 = 58) from Or.inr (Or.inr (Or.inr (Or.inr (Or.inr (Or.inr (Or.inr (Or.inr (rfl)))))))))
        have s22 : m21.1 58 0 k.toNat = (m.1 58 0 k.toNat) - 7 := by rw [hm21]; exact wuI_self
        have cp23 : zCp 50 m0 m21 (f - 1) (f) 1 := by rw [hm21]; exact q50
        have cp24 : zCp 51 m0 m21 (f - 1) (f) 1 := by rw [hm21]; exact q51
        have cp25 : zCp 52 m0 m21 (f - 1) (f) 1 := by rw [hm21]; exact q52
        have cp26 : zCp 53 m0 m21 (f - 1) (f) 1 := by rw [hm21]; exact q53
        have cp27 : zCp 54 m0 m21 (7 * f - 7) (7 * f) 7 := by rw [hm21]; exact q54
        have cp28 : zCp 55 m0 m21 (14 * f - 14) (14 * f) 14 := by rw [hm21]; exact q55
        have cp29 : zCp 56 m0 m21 (728 * f - 728) (728 * f) 728 := by rw [hm21]; exact q56
        have cp30 : zCp 57 m0 m21 (7 * f - 7) (7 * f) 7 := by rw [hm21]; exact q57
        refine ww_go 2 (pc' := 191) (L' := [(2, .inl (k + 1)), (0, .inr (.inr (.inl (some (34, 0))))), (1, .inl f)]) (st' := []) (m' := m21) (o := none) rfl trivial ?_
        refine ww_sub (L := [(0, .inr (.inr (.inl (some (34, 0))))), (1, .inl f), (2, .inl (k + 1))]) ⟨rfl, rfl, rfl, trivial⟩ rfl rfl ?_
        exact (ih _ (by omega)) (k + 1) m21 rfl (zB_mono hGm21 (by omega)) hFm21 (by omega) (by exact zCp_hi cp23 (by omega)) (by exact zCp_hi cp24 (by omega)) (by exact zCp_hi cp25 (by omega)) (by exact zCp_hi cp26 (by omega)) (by exact zCp_hi cp27 (by omega)) (by exact zCp_hi cp28 (by omega)) (by exact zCp_hi cp29 (by omega)) (by exact zCp_hi cp30 (by omega)) (by exact zSi1_s hS (by omega) hm21 (by first | (rw [if_pos (by omega)]; omega) | (rw [if_neg (by omega)]; omega)))
set_option maxRecDepth 8000 in
theorem yt244_l61 {sc : xSc} {n : Nat × Nat} {m0 : wm} {c : Int} (hc : 0 ≤ c ∧ c ≤ 1000000) (f : Int) (hG : zB c m0) (hR : zRI m0) (h0 : 1 ≤ f ∧ f ≤ 7) : ∀ (d : Nat), (∀ (i : Int) (m : wm), (7 * f + 7 - i).toNat * 1000 + 999 = d → zB c m → zfr (fun k i j => (k = 50) ∨ (k = 51) ∨ (k = 52) ∨ (k = 53) ∨ (k = 54) ∨ (k = 57) ∨ (k = 55) ∨ (k = 56) ∨ (k = 58)) m0 m → (7 * f ≤ i ∧ i ≤ 7 * f + 7) → (zCp 50 m0 m (f - 1) (f) 1) → (zCp 51 m0 m (f - 1) (f) 1) → (zCp 52 m0 m (f - 1) (f) 1) → (zCp 53 m0 m (f - 1) (f) 1) → (zCp 54 m0 m (7 * f - 7) (i - 7) 7) → (zCp 55 m0 m (14 * f - 14) (2 * i - 14) 14) → (zCp 56 m0 m (728 * f - 728) (104 * i - 728) 728) → (zCp 57 m0 m (7 * f - 7) (i - 7) 7) → (zSi1 m0 m f 0) →  wW (zK sc) zM244 61 [(0, .inr (.inr (.inl (some (34, 0))))), (1, .inl f), (2, .inl i)] [] n m (wr (fun vv n1 m1 => vv = none ∧ n = n1 ∧ zB c m1 ∧ zfr (fun k i j => (k = 50) ∨ (k = 51) ∨ (k = 52) ∨ (k = 53) ∨ (k = 54) ∨ (k = 57) ∨ (k = 55) ∨ (k = 56) ∨ (k = 58)) m0 m1 ∧ (zRI m1 ∧ (zShf m0 m1 f))))) ∧ (∀ (i : Int) (k : Int) (m : wm), (7 * f + 7 - i).toNat * 1000 + (104 - k).toNat = d → zB c m → zfr (fun k i j => (k = 50) ∨ (k = 51) ∨ (k = 52) ∨ (k = 53) ∨ (k = 54) ∨ (k = 57) ∨ (k = 55) ∨ (k = 56) ∨ (k = 58)) m0 m → (7 * f ≤ i ∧ i ≤ 7 * f + 6 ∧ 0 ≤ k ∧ k ≤ 104) → (zCp 50 m0 m (f - 1) (f) 1) → (zCp 51 m0 m (f - 1) (f) 1) → (zCp 52 m0 m (f - 1) (f) 1) → (zCp 53 m0 m (f - 1) (f) 1) → (zCp 54 m0 m (7 * f - 7) (i - 6) 7) → (zCp 55 m0 m (14 * f - 14) (2 * i - 12) 14) → (zCp 56 m0 m (728 * f - 728) (104 * i - 728 + k) 728) → (zCp 57 m0 m (7 * f - 7) (i - 6) 7) → (zSi1 m0 m f 0) →  wW (zK sc) zM244 146 [(0, .inr (.inr (.inl (some (34, 0))))), (1, .inl f), (2, .inl i), (3, .inl k)] [] n m (wr (fun vv n1 m1 => vv = none ∧ n = n1 ∧ zB c m1 ∧ zfr (fun k i j => (k = 50) ∨ (k = 51) ∨ (k = 52) ∨ (k = 53) ∨ (k = 54) ∨ (k = 57) ∨ (k = 55) ∨ (k = 56) ∨ (k = 58)) m0 m1 ∧ (zRI m1 ∧ (zShf m0 m1 f))))) := by
  intro d
  induction d using Nat.strongRecOn with
  | ind d ih =>
    refine ⟨?_, ?_⟩
    · intro i m hd hGm hFm hi q50 q51 q52 q53 q54 q55 q56 q57 hS
      refine ww_go 6 (pc' := 69) (L' := [(0, .inr (.inr (.inl (some (34, 0))))), (1, .inl f), (2, .inl i)]) (st' := [.inl ((7 * f) + 7), .inl i]) (m' := m) (o := none) rfl trivial ?_
      refine ww_ic (t := 189) rfl rfl (by omega) (fun (h1 : (7 * f) + 7 ≤ i) => ?_) (fun (h1 : ¬ ((7 * f) + 7 ≤ i)) => ?_)
      · show wW (zK sc) zM244 189 [(0, .inr (.inr (.inl (some (34, 0))))), (1, .inl f), (2, .inl i)] [] _ _ _
        refine ww_go 2 (pc' := 191) (L' := [(2, .inl 0), (0, .inr (.inr (.inl (some (34, 0))))), (1, .inl f)]) (st' := []) (m' := m) (o := none) rfl trivial ?_
        refine ww_sub (L := [(0, .inr (.inr (.inl (some (34, 0))))), (1, .inl f), (2, .inl 0)]) ⟨rfl, rfl, rfl, trivial⟩ rfl rfl ?_
        exact (yt244_l191 hc f hG hR h0 _) 0 m rfl (zB_mono hGm (by omega)) hFm (by omega) (by exact zCp_hi q50 (by omega)) (by exact zCp_hi q51 (by omega)) (by exact zCp_hi q52 (by omega)) (by exact zCp_hi q53 (by omega)) (by exact zCp_hi q54 (by omega)) (by exact zCp_hi q55 (by omega)) (by exact zCp_hi q56 (by omega)) (by exact zCp_hi q57 (by omega)) (by exact hS)
      · show wW (zK sc) zM244 72 [(0, .inr (.inr (.inl (some (34, 0))))), (1, .inl f), (2, .inl i)] [] _ _ _
        have b2 : (-1) ≤ m.1 54 0 i.toNat ∧ m.1 54 0 i.toNat ≤ 104 := hGm.1 54 _ rfl _ _
        refine ww_go 10 (pc' := 87) (L' := [(0, .inr (.inr (.inl (some (34, 0))))), (1, .inl f), (2, .inl i)]) (st' := []) (m' := wuI m 54 0 ((i - 7).toNat) (m.1 54 0 i.toNat)) (o := some ((0 < 1) ∧ (0 < 1) ∧ (0 < 1 ∧ 0 ≤ i ∧ i < ((56 : Nat) : Int)) ∧ (0 < 1 ∧ 0 ≤ i - 7 ∧ i - 7 < ((56 : Nat) : Int)))) rfl (show (0 < 1) ∧ (0 < 1) ∧ (0 < 1 ∧ 0 ≤ i ∧ i < ((56 : Nat) : Int)) ∧ (0 < 1 ∧ 0 ≤ i - 7 ∧ i - 7 < ((56 : Nat) : Int)) from by omega) ?_
        obtain ⟨m3, hm3⟩ : ∃ zq9 : wm, zq9 = wuI m 54 0 ((i - 7).toNat) (m.1 54 0 i.toNat) := ⟨_, rfl⟩
        rw [← hm3]
        have hGm3 : zB c m3 := by rw [hm3]; exact zB_wI rfl (show (-1) ≤ m.1 54 0 i.toNat ∧ m.1 54 0 i.toNat ≤ 104 from by omega) hGm
        have hFm3 : zfr (fun k i j => (k = 50) ∨ (k = 51) ∨ (k = 52) ∨ (k = 53) ∨ (k = 54) ∨ (k = 57) ∨ (k = 55) ∨ (k = 56) ∨ (k = 58)) m0 m3 := by rw [hm3]; exact zfr_wI hFm (show (54 = 50) ∨ (54 = 51) ∨ (54 = 52) ∨ (54 = 53) ∨ (54 = 54) ∨ (54 = 57) ∨ (54 = 55) ∨ (54 = 56) ∨ (54 = 58) from Or.inr (Or.inr (Or.inr (Or.inr (Or.inl rfl)))))
        have s4 : m3.1 54 0 ((i - 7).toNat) = m.1 54 0 i.toNat := by rw [hm3]; exact wuI_self
        have cp5 : zCp 50 m0 m3 (f - 1) (f) 1 := by rw [hm3]; exact q50
        have cp6 : zCp 51 m0 m3 (f - 1) (f) 1 := by rw [hm3]; exact q51
        have cp7 : zCp 52 m0 m3 (f - 1) (f) 1 := by rw [hm3]; exact q52
        have cp8 : zCp 53 m0 m3 (f - 1) (f) 1 := by rw [hm3]; exact q53
        have cp9 : zCp 54 m0 m3 (7 * f - 7) (i - 7 + 1) 7 := by rw [hm3]; exact zCp_s (t := i) q54 (by omega) (by omega) (by omega) rfl
        have cp10 : zCp 55 m0 m3 (14 * f - 14) (2 * i - 14) 14 := by rw [hm3]; exact q55
        have cp11 : zCp 56 m0 m3 (728 * f - 728) (104 * i - 728) 728 := by rw [hm3]; exact q56
        have cp12 : zCp 57 m0 m3 (7 * f - 7) (i - 7) 7 := by rw [hm3]; exact q57
        have b13 : 0 ≤ m3.1 57 0 i.toNat ∧ m3.1 57 0 i.toNat ≤ 1 := hGm3.1 57 _ rfl _ _
        refine ww_go 10 (pc' := 102) (L' := [(0, .inr (.inr (.inl (some (34, 0))))), (1, .inl f), (2, .inl i)]) (st' := []) (m' := wuI m3 57 0 ((i - 7).toNat) (m3.1 57 0 i.toNat)) (o := some ((0 < 1) ∧ (0 < 1) ∧ (0 < 1 ∧ 0 ≤ i ∧ i < ((56 : Nat) : Int)) ∧ (0 < 1 ∧ 0 ≤ i - 7 ∧ i - 7 < ((56 : Nat) : Int) ∧ 0 ≤ m3.1 57 0 i.toNat ∧ m3.1 57 0 i.toNat ≤ 1))) rfl (show (0 < 1) ∧ (0 < 1) ∧ (0 < 1 ∧ 0 ≤ i ∧ i < ((56 : Nat) : Int)) ∧ (0 < 1 ∧ 0 ≤ i - 7 ∧ i - 7 < ((56 : Nat) : Int) ∧ 0 ≤ m3.1 57 0 i.toNat ∧ m3.1 57 0 i.toNat ≤ 1) from by omega) ?_
        obtain ⟨m14, hm14⟩ : ∃ zq9 : wm, zq9 = wuI m3 57 0 ((i - 7).toNat) (m3.1 57 0 i.toNat) := ⟨_, rfl⟩
        rw [← hm14]
        have hGm14 : zB c m14 := by rw [hm14]; exact zB_wI rfl (show 0 ≤ m3.1 57 0 i.toNat ∧ m3.1 57 0 i.toNat ≤ 1 from by omega) hGm3
        have hFm14 : zfr (fun k i j => (k = 50) ∨ (k = 51) ∨ (k = 52) ∨ (k = 53) ∨ (k = 54) ∨ (k = 57) ∨ (k = 55) ∨ (k = 56) ∨ (k = 58)) m0 m14 := by rw [hm14]; exact zfr_wI hFm3 (show (57 = 50) ∨ (57 = 51) ∨ (57 = 52) ∨ (57 = 53) ∨ (57 = 54) ∨ (57 = 57) ∨ (57 = 55) ∨ (57 = 56) ∨ (57 = 58) from Or.inr (Or.inr (Or.inr (Or.inr (Or.inr (Or.inl rfl))))))
        have s15 : m14.1 57 0 ((i - 7).toNat) = m3.1 57 0 i.toNat := by rw [hm14]; exact wuI_self
        have cp16 : zCp 50 m0 m14 (f - 1) (f) 1 := by rw [hm14]; exact cp5
        have cp17 : zCp 51 m0 m14 (f - 1) (f) 1 := by rw [hm14]; exact cp6
        have cp18 : zCp 52 m0 m14 (f - 1) (f) 1 := by rw [hm14]; exact cp7
        have cp19 : zCp 53 m0 m14 (f - 1) (f) 1 := by rw [hm14]; exact cp8
        have cp20 : zCp 54 m0 m14 (7 * f - 7) (i - 7 + 1) 7 := by rw [hm14]; exact cp9
        have cp21 : zCp 55 m0 m14 (14 * f - 14) (2 * i - 14) 14 := by rw [hm14]; exact cp10
        have cp22 : zCp 56 m0 m14 (728 * f - 728) (104 * i - 728) 728 := by rw [hm14]; exact cp11
        have cp23 : zCp 57 m0 m14 (7 * f - 7) (i - 7 + 1) 7 := by rw [hm14]; exact zCp_s (t := i) cp12 (by omega) (by omega) (by omega) rfl
        have b24 : 0 ≤ m14.1 55 0 ((2 * i).toNat) ∧ m14.1 55 0 ((2 * i).toNat) ≤ 1 := hGm14.1 55 _ rfl _ _
        refine ww_go 14 (pc' := 121) (L' := [(0, .inr (.inr (.inl (some (34, 0))))), (1, .inl f), (2, .inl i)]) (st' := []) (m' := wuI m14 55 0 ((2 * (i - 7)).toNat) (m14.1 55 0 ((2 * i).toNat))) (o := some ((0 < 1) ∧ (0 < 1) ∧ (0 < 1 ∧ 0 ≤ 2 * i ∧ 2 * i < ((112 : Nat) : Int)) ∧ (0 < 1 ∧ 0 ≤ 2 * (i - 7) ∧ 2 * (i - 7) < ((112 : Nat) : Int) ∧ 0 ≤ m14.1 55 0 ((2 * i).toNat) ∧ m14.1 55 0 ((2 * i).toNat) ≤ 1))) rfl (show (0 < 1) ∧ (0 < 1) ∧ (0 < 1 ∧ 0 ≤ 2 * i ∧ 2 * i < ((112 : Nat) : Int)) ∧ (0 < 1 ∧ 0 ≤ 2 * (i - 7) ∧ 2 * (i - 7) < ((112 : Nat) : Int) ∧ 0 ≤ m14.1 55 0 ((2 * i).toNat) ∧ m14.1 55 0 ((2 * i).toNat) ≤ 1) from by omega) ?_
        obtain ⟨m25, hm25⟩ : ∃ zq9 : wm, zq9 = wuI m14 55 0 ((2 * (i - 7)).toNat) (m14.1 55 0 ((2 * i).toNat)) := ⟨_, rfl⟩
        rw [← hm25]
        have hGm25 : zB c m25 := by rw [hm25]; exact zB_wI rfl (show 0 ≤ m14.1 55 0 ((2 * i).toNat) ∧ m14.1 55 0 ((2 * i).toNat) ≤ 1 from by omega) hGm14
        have hFm25 : zfr (fun k i j => (k = 50) ∨ (k = 51) ∨ (k = 52) ∨ (k = 53) ∨ (k = 54) ∨ (k = 57) ∨ (k = 55) ∨ (k = 56) ∨ (k = 58)) m0 m25 := by rw [hm25]; exact zfr_wI hFm14 (show (55 = 50) ∨ (55 = 51) ∨ (55 = 52) ∨ (55 = 53) ∨ (55 = 54) ∨ (55 = 57) ∨ (55 = 55) ∨ (55 = 56) ∨ (55 = 58) from Or.inr (Or.inr (Or.inr (Or.inr (Or.inr (Or.inr (Or.inl rfl)))))))
        have s26 : m25.1 55 0 ((2 * (i - 7)).toNat) = m14.1 55 0 ((2 * i).toNat) := by rw [hm25]; exact wuI_self
        have cp27 : zCp 50 m0 m25 (f - 1) (f) 1 := by rw [hm25]; exact cp16
        have cp28 : zCp 51 m0 m25 (f - 1) (f) 1 := by rw [hm25]; exact cp17
        have cp29 : zCp 52 m0 m25 (f - 1) (f) 1 := by rw [hm25]; exact cp18
        have cp30 : zCp 53 m0 m25 (f - 1) (f) 1 := by rw [hm25]; exact cp19
        have cp31 : zCp 54 m0 m25 (7 * f - 7) (i - 7 + 1) 7 := by rw [hm25]; exact cp20
        have cp32 : zCp 55 m0 m25 (14 * f - 14) (2 * i - 14 + 1) 14 := by rw [hm25]; exact zCp_s (t := (2 * i)) cp21 (by omega) (by omega) (by omega) rfl
        have cp33 : zCp 56 m0 m25 (728 * f - 728) (104 * i - 728) 728 := by rw [hm25]; exact cp22
        have cp34 : zCp 57 m0 m25 (7 * f - 7) (i - 7 + 1) 7 := by rw [hm25]; exact cp23
        have b35 : 0 ≤ m25.1 55 0 (((2 * i) + 1).toNat) ∧ m25.1 55 0 (((2 * i) + 1).toNat) ≤ 1 := hGm25.1 55 _ rfl _ _
        refine ww_go 18 (pc' := 144) (L' := [(0, .inr (.inr (.inl (some (34, 0))))), (1, .inl f), (2, .inl i)]) (st' := []) (m' := wuI m25 55 0 (((2 * (i - 7)) + 1).toNat) (m25.1 55 0 (((2 * i) + 1).toNat))) (o := some ((0 < 1) ∧ (0 < 1) ∧ (0 < 1 ∧ 0 ≤ (2 * i) + 1 ∧ (2 * i) + 1 < ((112 : Nat) : Int)) ∧ (0 < 1 ∧ 0 ≤ (2 * (i - 7)) + 1 ∧ (2 * (i - 7)) + 1 < ((112 : Nat) : Int) ∧ 0 ≤ m25.1 55 0 (((2 * i) + 1).toNat) ∧ m25.1 55 0 (((2 * i) + 1).toNat) ≤ 1))) rfl (show (0 < 1) ∧ (0 < 1) ∧ (0 < 1 ∧ 0 ≤ (2 * i) + 1 ∧ (2 * i) + 1 < ((112 : Nat) : Int)) ∧ (0 < 1 ∧ 0 ≤ (2 * (i - 7)) + 1 ∧ (2 * (i - 7)) + 1 < ((112 : Nat) : Int) ∧ 0 ≤ m25.1 55 0 (((2 * i) + 1).toNat) ∧ m25.1 55 0 (((2 * i) + 1).toNat) ≤ 1) from by omega) ?_
        obtain ⟨m36, hm36⟩ : ∃ zq9 : wm, zq9 = wuI m25 55 0 (((2 * (i - 7)) + 1).toNat) (m25.1 55 0 (((2 * i) + 1).toNat)) := ⟨_, rfl⟩
        rw [← hm36]
        have hGm36 : zB c m36 := by rw [hm36]; exact zB_wI rfl (show 0 ≤ m25.1 55 0 (((2 * i) + 1).toNat) ∧ m25.1 55 0 (((2 * i) + 1).toNat) ≤ 1 from by omega) hGm25
        have hFm36 : zfr (fun k i j => (k = 50) ∨ (k = 51) ∨ (k = 52) ∨ (k = 53) ∨ (k = 54) ∨ (k = 57) ∨ (k = 55) ∨ (k = 56) ∨ (k = 58)) m0 m36 := by rw [hm36]; exact zfr_wI hFm25 (show (55 = 50) ∨ (55 = 51) ∨ (55 = 52) ∨ (55 = 53) ∨ (55 = 54) ∨ (55 = 57) ∨ (55 = 55) ∨ (55 = 56) ∨ (55 = 58) from Or.inr (Or.inr (Or.inr (Or.inr (Or.inr (Or.inr (Or.inl rfl)))))))
        have s37 : m36.1 55 0 (((2 * (i - 7)) + 1).toNat) = m25.1 55 0 (((2 * i) + 1).toNat) := by rw [hm36]; exact wuI_self
        have cp38 : zCp 50 m0 m36 (f - 1) (f) 1 := by rw [hm36]; exact cp27
        have cp39 : zCp 51 m0 m36 (f - 1) (f) 1 := by rw [hm36]; exact cp28
        have cp40 : zCp 52 m0 m36 (f - 1) (f) 1 := by rw [hm36]; exact cp29
        have cp41 : zCp 53 m0 m36 (f - 1) (f) 1 := by rw [hm36]; exact cp30
        have cp42 : zCp 54 m0 m36 (7 * f - 7) (i - 7 + 1) 7 := by rw [hm36]; exact cp31
        have cp43 : zCp 55 m0 m36 (14 * f - 14) (2 * i - 14 + 1 + 1) 14 := by rw [hm36]; exact zCp_s (t := ((2 * i) + 1)) cp32 (by omega) (by omega) (by omega) rfl
        have cp44 : zCp 56 m0 m36 (728 * f - 728) (104 * i - 728) 728 := by rw [hm36]; exact cp33
        have cp45 : zCp 57 m0 m36 (7 * f - 7) (i - 7 + 1) 7 := by rw [hm36]; exact cp34
        refine ww_go 2 (pc' := 146) (L' := [(3, .inl 0), (0, .inr (.inr (.inl (some (34, 0))))), (1, .inl f), (2, .inl i)]) (st' := []) (m' := m36) (o := none) rfl trivial ?_
        refine ww_sub (L := [(0, .inr (.inr (.inl (some (34, 0))))), (1, .inl f), (2, .inl i), (3, .inl 0)]) ⟨rfl, rfl, rfl, rfl, trivial⟩ rfl rfl ?_
        exact (ih _ (by omega)).2 i 0 m36 rfl (zB_mono hGm36 (by omega)) hFm36 (by omega) (by exact zCp_hi cp38 (by omega)) (by exact zCp_hi cp39 (by omega)) (by exact zCp_hi cp40 (by omega)) (by exact zCp_hi cp41 (by omega)) (by exact zCp_hi cp42 (by omega)) (by exact zCp_hi cp43 (by omega)) (by exact zCp_hi cp44 (by omega)) (by exact zCp_hi cp45 (by omega)) (by rw [hm36, hm25, hm14, hm3]; exact hS)
    · intro i k m hd hGm hFm hi q50 q51 q52 q53 q54 q55 q56 q57 hS
      refine ww_go 2 (pc' := 149) (L' := [(0, .inr (.inr (.inl (some (34, 0))))), (1, .inl f), (2, .inl i), (3, .inl k)]) (st' := [.inl 104, .inl k]) (m' := m) (o := none) rfl trivial ?_
      refine ww_ic (t := 183) rfl rfl (by omega) (fun (h1 : 104 ≤ k) => ?_) (fun (h1 : ¬ (104 ≤ k)) => ?_)
      · show wW (zK sc) zM244 183 [(0, .inr (.inr (.inl (some (34, 0))))), (1, .inl f), (2, .inl i), (3, .inl k)] [] _ _ _
        refine ww_go 2 (pc' := 61) (L' := [(2, .inl (i + 1)), (0, .inr (.inr (.inl (some (34, 0))))), (1, .inl f), (3, .inl k)]) (st' := []) (m' := m) (o := none) rfl trivial ?_
        refine ww_sub (L := [(0, .inr (.inr (.inl (some (34, 0))))), (1, .inl f), (2, .inl (i + 1))]) ⟨rfl, rfl, rfl, trivial⟩ rfl rfl ?_
        exact (ih _ (by omega)).1 (i + 1) m rfl (zB_mono hGm (by omega)) hFm (by omega) (by exact zCp_hi q50 (by omega)) (by exact zCp_hi q51 (by omega)) (by exact zCp_hi q52 (by omega)) (by exact zCp_hi q53 (by omega)) (by exact zCp_hi q54 (by omega)) (by exact zCp_hi q55 (by omega)) (by exact zCp_hi q56 (by omega)) (by exact zCp_hi q57 (by omega)) (by exact hS)
      · show wW (zK sc) zM244 152 [(0, .inr (.inr (.inl (some (34, 0))))), (1, .inl f), (2, .inl i), (3, .inl k)] [] _ _ _
        have b2 : 0 ≤ m.1 56 0 (((104 * i) + k).toNat) ∧ m.1 56 0 (((104 * i) + k).toNat) ≤ 255 := hGm.1 56 _ rfl _ _
        refine ww_go 18 (pc' := 177) (L' := [(0, .inr (.inr (.inl (some (34, 0))))), (1, .inl f), (2, .inl i), (3, .inl k)]) (st' := []) (m' := wuI m 56 0 (((104 * (i - 7)) + k).toNat) (m.1 56 0 (((104 * i) + k).toNat))) (o := some ((0 < 1) ∧ (0 < 1) ∧ (0 < 1 ∧ 0 ≤ (104 * i) + k ∧ (104 * i) + k < ((5824 : Nat) : Int)) ∧ (0 < 1 ∧ 0 ≤ (104 * (i - 7)) + k ∧ (104 * (i - 7)) + k < ((5824 : Nat) : Int)))) rfl (show (0 < 1) ∧ (0 < 1) ∧ (0 < 1 ∧ 0 ≤ (104 * i) + k ∧ (104 * i) + k < ((5824 : Nat) : Int)) ∧ (0 < 1 ∧ 0 ≤ (104 * (i - 7)) + k ∧ (104 * (i - 7)) + k < ((5824 : Nat) : Int)) from by omega) ?_
        obtain ⟨m3, hm3⟩ : ∃ zq9 : wm, zq9 = wuI m 56 0 (((104 * (i - 7)) + k).toNat) (m.1 56 0 (((104 * i) + k).toNat)) := ⟨_, rfl⟩
        rw [← hm3]
        have hGm3 : zB c m3 := by rw [hm3]; exact zB_wI rfl (show 0 ≤ m.1 56 0 (((104 * i) + k).toNat) ∧ m.1 56 0 (((104 * i) + k).toNat) ≤ 255 from by omega) hGm
        have hFm3 : zfr (fun k i j => (k = 50) ∨ (k = 51) ∨ (k = 52) ∨ (k = 53) ∨ (k = 54) ∨ (k = 57) ∨ (k = 55) ∨ (k = 56) ∨ (k = 58)) m0 m3 := by rw [hm3]; exact zfr_wI hFm (show (56 = 50) ∨ (56 = 51) ∨ (56 = 52) ∨ (56 = 53) ∨ (56 = 54) ∨ (56 = 57) ∨ (56 = 55) ∨ (56 = 56) ∨ (56 = 58) from Or.inr (Or.inr (Or.inr (Or.inr (Or.inr (Or.inr (Or.inr (Or.inl rfl))))))))
        have s4 : m3.1 56 0 (((104 * (i - 7)) + k).toNat) = m.1 56 0 (((104 * i) + k).toNat) := by rw [hm3]; exact wuI_self
        have cp5 : zCp 50 m0 m3 (f - 1) (f) 1 := by rw [hm3]; exact q50
        have cp6 : zCp 51 m0 m3 (f - 1) (f) 1 := by rw [hm3]; exact q51
        have cp7 : zCp 52 m0 m3 (f - 1) (f) 1 := by rw [hm3]; exact q52
        have cp8 : zCp 53 m0 m3 (f - 1) (f) 1 := by rw [hm3]; exact q53
        have cp9 : zCp 54 m0 m3 (7 * f - 7) (i - 6) 7 := by rw [hm3]; exact q54
        have cp10 : zCp 55 m0 m3 (14 * f - 14) (2 * i - 12) 14 := by rw [hm3]; exact q55
        have cp11 : zCp 56 m0 m3 (728 * f - 728) (104 * i - 728 + k + 1) 728 := by rw [hm3]; exact zCp_s (t := ((104 * i) + k)) q56 (by omega) (by omega) (by omega) rfl
        have cp12 : zCp 57 m0 m3 (7 * f - 7) (i - 6) 7 := by rw [hm3]; exact q57
        refine ww_go 2 (pc' := 146) (L' := [(3, .inl (k + 1)), (0, .inr (.inr (.inl (some (34, 0))))), (1, .inl f), (2, .inl i)]) (st' := []) (m' := m3) (o := none) rfl trivial ?_
        refine ww_sub (L := [(0, .inr (.inr (.inl (some (34, 0))))), (1, .inl f), (2, .inl i), (3, .inl (k + 1))]) ⟨rfl, rfl, rfl, rfl, trivial⟩ rfl rfl ?_
        exact (ih _ (by omega)).2 i (k + 1) m3 rfl (zB_mono hGm3 (by omega)) hFm3 (by omega) (by exact zCp_hi cp5 (by omega)) (by exact zCp_hi cp6 (by omega)) (by exact zCp_hi cp7 (by omega)) (by exact zCp_hi cp8 (by omega)) (by exact zCp_hi cp9 (by omega)) (by exact zCp_hi cp10 (by omega)) (by exact zCp_hi cp11 (by omega)) (by exact zCp_hi cp12 (by omega)) (by rw [hm3]; exact hS)
set_option maxRecDepth 8000 in
/-- Mo.shift -/
theorem yt244 {sc : xSc} {n : Nat × Nat} {m0 : wm} {c : Int} (hc : 0 ≤ c ∧ c ≤ 1000000) (f : Int) (hG : zB c m0) (hR : zRI m0) (h0 : 1 ≤ f ∧ f ≤ 7) : wX (zK sc) 244 [.inr (.inr (.inl (some (34, 0)))), .inl f] n m0 (wr (fun vv n1 m1 => vv = none ∧ n = n1 ∧ zB c m1 ∧ zfr (fun k i j => (k = 50) ∨ (k = 51) ∨ (k = 52) ∨ (k = 53) ∨ (k = 54) ∨ (k = 57) ∨ (k = 55) ∨ (k = 56) ∨ (k = 58)) m0 m1 ∧ (zRI m1 ∧ (zShf m0 m1 f)))) := by
  refine wX_of (N := zM244) rfl (Nat.le_of_ble_eq_true rfl) ?_
  show wW (zK sc) zM244 0 [(0, .inr (.inr (.inl (some (34, 0))))), (1, .inl f)] [] n m0 _
  have hF : zfr (fun k i j => (k = 50) ∨ (k = 51) ∨ (k = 52) ∨ (k = 53) ∨ (k = 54) ∨ (k = 57) ∨ (k = 55) ∨ (k = 56) ∨ (k = 58)) m0 m0 := zfr_rf
  have b1 : 0 ≤ m0.1 50 0 f.toNat ∧ m0.1 50 0 f.toNat ≤ 65535 := hG.1 50 _ rfl _ _
  refine ww_go 10 (pc' := 14) (L' := [(0, .inr (.inr (.inl (some (34, 0))))), (1, .inl f)]) (st' := []) (m' := wuI m0 50 0 ((f - 1).toNat) (m0.1 50 0 f.toNat)) (o := some ((0 < 1) ∧ (0 < 1) ∧ (0 < 1 ∧ 0 ≤ f ∧ f < ((8 : Nat) : Int)) ∧ (0 < 1 ∧ 0 ≤ f - 1 ∧ f - 1 < ((8 : Nat) : Int)))) rfl (show (0 < 1) ∧ (0 < 1) ∧ (0 < 1 ∧ 0 ≤ f ∧ f < ((8 : Nat) : Int)) ∧ (0 < 1 ∧ 0 ≤ f - 1 ∧ f - 1 < ((8 : Nat) : Int)) from by omega) ?_
  obtain ⟨m2, hm2⟩ : ∃ zq9 : wm, zq9 = wuI m0 50 0 ((f - 1).toNat) (m0.1 50 0 f.toNat) := ⟨_, rfl⟩
  rw [← hm2]
  have hGm2 : zB c m2 := by rw [hm2]; exact zB_wI rfl (show 0 ≤ m0.1 50 0 f.toNat ∧ m0.1 50 0 f.toNat ≤ 65535 from by omega) hG
  have hFm2 : zfr (fun k i j => (k = 50) ∨ (k = 51) ∨ (k = 52) ∨ (k = 53) ∨ (k = 54) ∨ (k = 57) ∨ (k = 55) ∨ (k = 56) ∨ (k = 58)) m0 m2 := by rw [hm2]; exact zfr_wI hF (show (50 = 50) ∨ (50 = 51) ∨ (50 = 52) ∨ (50 = 53) ∨ (50 = 54) ∨ (50 = 57) ∨ (50 = 55) ∨ (50 = 56) ∨ (50 = 58) from Or.inl rfl)
  have s3 : m2.1 50 0 ((f - 1).toNat) = m0.1 50 0 f.toNat := by rw [hm2]; exact wuI_self
  have hRm2 : zRI m2 := by rw [hm2]; exact zRI_wo (by decide) hR
  have cp4 : zCp 50 m0 m2 (f - 1) (f - 1 + 1) 1 := by rw [hm2]; exact zCp_s (t := f) (zCp_0 : zCp 50 m0 m0 (f - 1) (f - 1) 1) (by omega) (by omega) (by omega) rfl
  have cp5 : zCp 51 m0 m2 (f - 1) (f - 1) 1 := by rw [hm2]; exact (zCp_0 : zCp 51 m0 m0 (f - 1) (f - 1) 1)
  have cp6 : zCp 52 m0 m2 (f - 1) (f - 1) 1 := by rw [hm2]; exact (zCp_0 : zCp 52 m0 m0 (f - 1) (f - 1) 1)
  have cp7 : zCp 53 m0 m2 (f - 1) (f - 1) 1 := by rw [hm2]; exact (zCp_0 : zCp 53 m0 m0 (f - 1) (f - 1) 1)
  have cp8 : zCp 54 m0 m2 (7 * f - 7) (7 * f - 7) 7 := by rw [hm2]; exact (zCp_0 : zCp 54 m0 m0 (7 * f - 7) (7 * f - 7) 7)
  have cp9 : zCp 55 m0 m2 (14 * f - 14) (14 * f - 14) 14 := by rw [hm2]; exact (zCp_0 : zCp 55 m0 m0 (14 * f - 14) (14 * f - 14) 14)
  have cp10 : zCp 56 m0 m2 (728 * f - 728) (728 * f - 728) 728 := by rw [hm2]; exact (zCp_0 : zCp 56 m0 m0 (728 * f - 728) (728 * f - 728) 728)
  have cp11 : zCp 57 m0 m2 (7 * f - 7) (7 * f - 7) 7 := by rw [hm2]; exact (zCp_0 : zCp 57 m0 m0 (7 * f - 7) (7 * f - 7) 7)
  have b12 : 0 ≤ m2.1 51 0 f.toNat ∧ m2.1 51 0 f.toNat ≤ 1 := hGm2.1 51 _ rfl _ _
  refine ww_go 10 (pc' := 28) (L' := [(0, .inr (.inr (.inl (some (34, 0))))), (1, .inl f)]) (st' := []) (m' := wuI m2 51 0 ((f - 1).toNat) (m2.1 51 0 f.toNat)) (o := some ((0 < 1) ∧ (0 < 1) ∧ (0 < 1 ∧ 0 ≤ f ∧ f < ((8 : Nat) : Int)) ∧ (0 < 1 ∧ 0 ≤ f - 1 ∧ f - 1 < ((8 : Nat) : Int) ∧ 0 ≤ m2.1 51 0 f.toNat ∧ m2.1 51 0 f.toNat ≤ 1))) rfl (show (0 < 1) ∧ (0 < 1) ∧ (0 < 1 ∧ 0 ≤ f ∧ f < ((8 : Nat) : Int)) ∧ (0 < 1 ∧ 0 ≤ f - 1 ∧ f - 1 < ((8 : Nat) : Int) ∧ 0 ≤ m2.1 51 0 f.toNat ∧ m2.1 51 0 f.toNat ≤ 1) from by omega) ?_
  obtain ⟨m13, hm13⟩ : ∃ zq9 : wm, zq9 = wuI m2 51 0 ((f - 1).toNat) (m2.1 51 0 f.toNat) := ⟨_, rfl⟩
  rw [← hm13]
  have hGm13 : zB c m13 := by rw [hm13]; exact zB_wI rfl (show 0 ≤ m2.1 51 0 f.toNat ∧ m2.1 51 0 f.toNat ≤ 1 from by omega) hGm2
  have hFm13 : zfr (fun k i j => (k = 50) ∨ (k = 51) ∨ (k = 52) ∨ (k = 53) ∨ (k = 54) ∨ (k = 57) ∨ (k = 55) ∨ (k = 56) ∨ (k = 58)) m0 m13 := by rw [hm13]; exact zfr_wI hFm2 (show (51 = 50) ∨ (51 = 51) ∨ (51 = 52) ∨ (51 = 53) ∨ (51 = 54) ∨ (51 = 57) ∨ (51 = 55) ∨ (51 = 56) ∨ (51 = 58) from Or.inr (Or.inl rfl))
  have s14 : m13.1 51 0 ((f - 1).toNat) = m2.1 51 0 f.toNat := by rw [hm13]; exact wuI_self
  have cp15 : zCp 50 m0 m13 (f - 1) (f - 1 + 1) 1 := by rw [hm13]; exact cp4
  have cp16 : zCp 51 m0 m13 (f - 1) (f - 1 + 1) 1 := by rw [hm13]; exact zCp_s (t := f) cp5 (by omega) (by omega) (by omega) rfl
  have cp17 : zCp 52 m0 m13 (f - 1) (f - 1) 1 := by rw [hm13]; exact cp6
  have cp18 : zCp 53 m0 m13 (f - 1) (f - 1) 1 := by rw [hm13]; exact cp7
  have cp19 : zCp 54 m0 m13 (7 * f - 7) (7 * f - 7) 7 := by rw [hm13]; exact cp8
  have cp20 : zCp 55 m0 m13 (14 * f - 14) (14 * f - 14) 14 := by rw [hm13]; exact cp9
  have cp21 : zCp 56 m0 m13 (728 * f - 728) (728 * f - 728) 728 := by rw [hm13]; exact cp10
  have cp22 : zCp 57 m0 m13 (7 * f - 7) (7 * f - 7) 7 := by rw [hm13]; exact cp11
  have b23 : 0 ≤ m13.1 52 0 f.toNat ∧ m13.1 52 0 f.toNat ≤ 6 := hGm13.1 52 _ rfl _ _
  refine ww_go 10 (pc' := 42) (L' := [(0, .inr (.inr (.inl (some (34, 0))))), (1, .inl f)]) (st' := []) (m' := wuI m13 52 0 ((f - 1).toNat) (m13.1 52 0 f.toNat)) (o := some ((0 < 1) ∧ (0 < 1) ∧ (0 < 1 ∧ 0 ≤ f ∧ f < ((8 : Nat) : Int)) ∧ (0 < 1 ∧ 0 ≤ f - 1 ∧ f - 1 < ((8 : Nat) : Int)))) rfl (show (0 < 1) ∧ (0 < 1) ∧ (0 < 1 ∧ 0 ≤ f ∧ f < ((8 : Nat) : Int)) ∧ (0 < 1 ∧ 0 ≤ f - 1 ∧ f - 1 < ((8 : Nat) : Int)) from by omega) ?_
  obtain ⟨m24, hm24⟩ : ∃ zq9 : wm, zq9 = wuI m13 52 0 ((f - 1).toNat) (m13.1 52 0 f.toNat) := ⟨_, rfl⟩
  rw [← hm24]
  have hGm24 : zB c m24 := by rw [hm24]; exact zB_wI rfl (show 0 ≤ m13.1 52 0 f.toNat ∧ m13.1 52 0 f.toNat ≤ 6 from by omega) hGm13
  have hFm24 : zfr (fun k i j => (k = 50) ∨ (k = 51) ∨ (k = 52) ∨ (k = 53) ∨ (k = 54) ∨ (k = 57) ∨ (k = 55) ∨ (k = 56) ∨ (k = 58)) m0 m24 := by rw [hm24]; exact zfr_wI hFm13 (show (52 = 50) ∨ (52 = 51) ∨ (52 = 52) ∨ (52 = 53) ∨ (52 = 54) ∨ (52 = 57) ∨ (52 = 55) ∨ (52 = 56) ∨ (52 = 58) from Or.inr (Or.inr (Or.inl rfl)))
  have s25 : m24.1 52 0 ((f - 1).toNat) = m13.1 52 0 f.toNat := by rw [hm24]; exact wuI_self
  have cp26 : zCp 50 m0 m24 (f - 1) (f - 1 + 1) 1 := by rw [hm24]; exact cp15
  have cp27 : zCp 51 m0 m24 (f - 1) (f - 1 + 1) 1 := by rw [hm24]; exact cp16
  have cp28 : zCp 52 m0 m24 (f - 1) (f - 1 + 1) 1 := by rw [hm24]; exact zCp_s (t := f) cp17 (by omega) (by omega) (by omega) rfl
  have cp29 : zCp 53 m0 m24 (f - 1) (f - 1) 1 := by rw [hm24]; exact cp18
  have cp30 : zCp 54 m0 m24 (7 * f - 7) (7 * f - 7) 7 := by rw [hm24]; exact cp19
  have cp31 : zCp 55 m0 m24 (14 * f - 14) (14 * f - 14) 14 := by rw [hm24]; exact cp20
  have cp32 : zCp 56 m0 m24 (728 * f - 728) (728 * f - 728) 728 := by rw [hm24]; exact cp21
  have cp33 : zCp 57 m0 m24 (7 * f - 7) (7 * f - 7) 7 := by rw [hm24]; exact cp22
  have b34 : 0 ≤ m24.1 53 0 f.toNat ∧ m24.1 53 0 f.toNat ≤ 2 := hGm24.1 53 _ rfl _ _
  refine ww_go 10 (pc' := 56) (L' := [(0, .inr (.inr (.inl (some (34, 0))))), (1, .inl f)]) (st' := []) (m' := wuI m24 53 0 ((f - 1).toNat) (m24.1 53 0 f.toNat)) (o := some ((0 < 1) ∧ (0 < 1) ∧ (0 < 1 ∧ 0 ≤ f ∧ f < ((8 : Nat) : Int)) ∧ (0 < 1 ∧ 0 ≤ f - 1 ∧ f - 1 < ((8 : Nat) : Int)))) rfl (show (0 < 1) ∧ (0 < 1) ∧ (0 < 1 ∧ 0 ≤ f ∧ f < ((8 : Nat) : Int)) ∧ (0 < 1 ∧ 0 ≤ f - 1 ∧ f - 1 < ((8 : Nat) : Int)) from by omega) ?_
  obtain ⟨m35, hm35⟩ : ∃ zq9 : wm, zq9 = wuI m24 53 0 ((f - 1).toNat) (m24.1 53 0 f.toNat) := ⟨_, rfl⟩
  rw [← hm35]
  have hGm35 : zB c m35 := by rw [hm35]; exact zB_wI rfl (show 0 ≤ m24.1 53 0 f.toNat ∧ m24.1 53 0 f.toNat ≤ 2 from by omega) hGm24
  have hFm35 : zfr (fun k i j => (k = 50) ∨ (k = 51) ∨ (k = 52) ∨ (k = 53) ∨ (k = 54) ∨ (k = 57) ∨ (k = 55) ∨ (k = 56) ∨ (k = 58)) m0 m35 := by rw [hm35]; exact zfr_wI hFm24 (show (53 = 50) ∨ (53 = 51) ∨ (53 = 52) ∨ (53 = 53) ∨ (53 = 54) ∨ (53 = 57) ∨ (53 = 55) ∨ (53 = 56) ∨ (53 = 58) from Or.inr (Or.inr (Or.inr (Or.inl rfl))))
  have s36 : m35.1 53 0 ((f - 1).toNat) = m24.1 53 0 f.toNat := by rw [hm35]; exact wuI_self
  have cp37 : zCp 50 m0 m35 (f - 1) (f - 1 + 1) 1 := by rw [hm35]; exact cp26
  have cp38 : zCp 51 m0 m35 (f - 1) (f - 1 + 1) 1 := by rw [hm35]; exact cp27
  have cp39 : zCp 52 m0 m35 (f - 1) (f - 1 + 1) 1 := by rw [hm35]; exact cp28
  have cp40 : zCp 53 m0 m35 (f - 1) (f - 1 + 1) 1 := by rw [hm35]; exact zCp_s (t := f) cp29 (by omega) (by omega) (by omega) rfl
  have cp41 : zCp 54 m0 m35 (7 * f - 7) (7 * f - 7) 7 := by rw [hm35]; exact cp30
  have cp42 : zCp 55 m0 m35 (14 * f - 14) (14 * f - 14) 14 := by rw [hm35]; exact cp31
  have cp43 : zCp 56 m0 m35 (728 * f - 728) (728 * f - 728) 728 := by rw [hm35]; exact cp32
  have cp44 : zCp 57 m0 m35 (7 * f - 7) (7 * f - 7) 7 := by rw [hm35]; exact cp33
  refine ww_go 4 (pc' := 61) (L' := [(2, .inl (7 * f)), (0, .inr (.inr (.inl (some (34, 0))))), (1, .inl f)]) (st' := []) (m' := m35) (o := none) rfl trivial ?_
  refine ww_sub (L := [(0, .inr (.inr (.inl (some (34, 0))))), (1, .inl f), (2, .inl (7 * f))]) ⟨rfl, rfl, rfl, trivial⟩ rfl rfl ?_
  exact (yt244_l61 hc f hG hR h0 _).1 (7 * f) m35 rfl (zB_mono hGm35 (by omega)) hFm35 (by omega) (by exact zCp_hi cp37 (by omega)) (by exact zCp_hi cp38 (by omega)) (by exact zCp_hi cp39 (by omega)) (by exact zCp_hi cp40 (by omega)) (by exact zCp_hi cp41 (by omega)) (by exact zCp_hi cp42 (by omega)) (by exact zCp_hi cp43 (by omega)) (by exact zCp_hi cp44 (by omega)) (by rw [hm35, hm24, hm13, hm2]; exact zSi1_0)
set_option maxRecDepth 8000 in
theorem yt231_l4 {sc : xSc} {n : Nat × Nat} {m : wm} {c : Int} (hc : 0 ≤ c ∧ c ≤ 1000000) (f : Int) (x : Int) (hG : zB c m) (h0 : 0 ≤ f ∧ f ≤ 1 ∧ -2147483648 ≤ x ∧ x ≤ 2147483647) : ∀ (d : Nat), ∀ (k : Int), (8 - k).toNat = d → (4 * f ≤ k ∧ k ≤ 4 * f + 4) → (∀ q : Nat, 4 * f + (q : Int) < k → m.1 50 0 (4 * f.toNat + q) ≠ x) →  wW (zK sc) zM231 4 [(0, .inr (.inr (.inl (some (34, 0))))), (1, .inl f), (2, .inl x), (3, .inl k)] [] n m (wr (fun vv n1 m1 => ∃ r : Int, vv = some (.inl r) ∧ n = n1 ∧ m = m1 ∧ ((r = -1 ∧ ∀ q : Nat, q < 4 → m.1 50 0 (4 * f.toNat + q) ≠ x) ∨ (4 * f ≤ r ∧ r ≤ 4 * f + 3 ∧ m.1 50 0 r.toNat = x)))) := by
  intro d
  induction d using Nat.strongRecOn with
  | ind d ih =>
    intro k hd hi hn
    refine ww_go 6 (pc' := 10) (L' := [(0, .inr (.inr (.inl (some (34, 0))))), (1, .inl f), (2, .inl x), (3, .inl k)]) (st' := [.inl ((4 * f) + 4), .inl k]) (m' := m) (o := none) rfl trivial ?_
    refine ww_ic (t := 31) rfl rfl (by omega) (fun (h1 : (4 * f) + 4 ≤ k) => ?_) (fun (h1 : ¬ ((4 * f) + 4 ≤ k)) => ?_)
    · show wW (zK sc) zM231 31 [(0, .inr (.inr (.inl (some (34, 0))))), (1, .inl f), (2, .inl x), (3, .inl k)] [] _ _ _
      refine ww_go 1 (pc' := 32) (L' := [(0, .inr (.inr (.inl (some (34, 0))))), (1, .inl f), (2, .inl x), (3, .inl k)]) (st' := [.inl ((-1))]) (m' := m) (o := none) rfl trivial ?_
      exact ww_rI rfl rfl ⟨_, rfl, rfl, rfl, by exact Or.inl ⟨rfl, fun q hq => hn q (by omega)⟩⟩
    · show wW (zK sc) zM231 13 [(0, .inr (.inr (.inl (some (34, 0))))), (1, .inl f), (2, .inl x), (3, .inl k)] [] _ _ _
      have b2 : 0 ≤ m.1 50 0 k.toNat ∧ m.1 50 0 k.toNat ≤ 65535 := hG.1 50 _ rfl _ _
      refine ww_go 5 (pc' := 20) (L' := [(0, .inr (.inr (.inl (some (34, 0))))), (1, .inl f), (2, .inl x), (3, .inl k)]) (st' := [.inl x, .inl (m.1 50 0 k.toNat)]) (m' := m) (o := some ((0 < 1) ∧ (0 < 1 ∧ 0 ≤ k ∧ k < ((8 : Nat) : Int)))) rfl (show (0 < 1) ∧ (0 < 1 ∧ 0 ≤ k ∧ k < ((8 : Nat) : Int)) from by omega) ?_
      refine ww_ic (t := 25) rfl rfl (by omega) (fun (h3 : m.1 50 0 k.toNat ≠ x) => ?_) (fun (h3 : ¬ (m.1 50 0 k.toNat ≠ x)) => ?_)
      · show wW (zK sc) zM231 25 [(0, .inr (.inr (.inl (some (34, 0))))), (1, .inl f), (2, .inl x), (3, .inl k)] [] _ _ _
        refine ww_go 2 (pc' := 4) (L' := [(3, .inl (k + 1)), (0, .inr (.inr (.inl (some (34, 0))))), (1, .inl f), (2, .inl x)]) (st' := []) (m' := m) (o := none) rfl trivial ?_
        refine ww_sub (L := [(0, .inr (.inr (.inl (some (34, 0))))), (1, .inl f), (2, .inl x), (3, .inl (k + 1))]) ⟨rfl, rfl, rfl, rfl, trivial⟩ rfl rfl ?_
        exact (ih _ (by omega)) (k + 1) rfl (by omega) (by exact fun q hq => (Decidable.em (4 * f + (q : Int) < k)).elim (fun w => hn q w) (fun w => (by rw [show 4 * f.toNat + q = k.toNat from by omega]; omega)))
      · show wW (zK sc) zM231 23 [(0, .inr (.inr (.inl (some (34, 0))))), (1, .inl f), (2, .inl x), (3, .inl k)] [] _ _ _
        refine ww_go 1 (pc' := 24) (L' := [(0, .inr (.inr (.inl (some (34, 0))))), (1, .inl f), (2, .inl x), (3, .inl k)]) (st' := [.inl k]) (m' := m) (o := none) rfl trivial ?_
        exact ww_rI rfl rfl ⟨_, rfl, rfl, rfl, by exact Or.inr ⟨by omega, by omega, by omega⟩⟩
set_option maxRecDepth 8000 in
/-- Mo.placeOf -/
theorem yt231 {sc : xSc} {n : Nat × Nat} {m : wm} {c : Int} (hc : 0 ≤ c ∧ c ≤ 1000000) (f : Int) (x : Int) (hG : zB c m) (h0 : 0 ≤ f ∧ f ≤ 1 ∧ -2147483648 ≤ x ∧ x ≤ 2147483647) : wX (zK sc) 231 [.inr (.inr (.inl (some (34, 0)))), .inl f, .inl x] n m (wr (fun vv n1 m1 => ∃ r : Int, vv = some (.inl r) ∧ n = n1 ∧ m = m1 ∧ ((r = -1 ∧ ∀ q : Nat, q < 4 → m.1 50 0 (4 * f.toNat + q) ≠ x) ∨ (4 * f ≤ r ∧ r ≤ 4 * f + 3 ∧ m.1 50 0 r.toNat = x)))) := by
  refine wX_of (N := zM231) rfl (Nat.le_of_ble_eq_true rfl) ?_
  show wW (zK sc) zM231 0 [(0, .inr (.inr (.inl (some (34, 0))))), (1, .inl f), (2, .inl x)] [] n m _
  refine ww_go 4 (pc' := 4) (L' := [(3, .inl (4 * f)), (0, .inr (.inr (.inl (some (34, 0))))), (1, .inl f), (2, .inl x)]) (st' := []) (m' := m) (o := none) rfl trivial ?_
  refine ww_sub (L := [(0, .inr (.inr (.inl (some (34, 0))))), (1, .inl f), (2, .inl x), (3, .inl (4 * f))]) ⟨rfl, rfl, rfl, rfl, trivial⟩ rfl rfl ?_
  exact (yt231_l4 hc f x hG h0 _) (4 * f) rfl (by omega) (by exact fun q hq => absurd hq (by omega))
set_option maxRecDepth 8000 in
theorem yt206_l25 {sc : xSc} {n : Nat × Nat} {m0 : wm} {c : Int} (hc : 0 ≤ c ∧ c ≤ 1000000) (f : Int) (x : Int) (hG : zB c m0) (hR : zRI m0) (h0 : 0 ≤ f ∧ f ≤ 1 ∧ 1 ≤ x ∧ x ≤ 65535) : ∀ (d : Nat), ∀ (a : Int) (m : wm), (8 - a).toNat = d → zB c m → zfr (fun k i j => (k = 50) ∨ (k = 51) ∨ (k = 52) ∨ (k = 53) ∨ (k = 54) ∨ (k = 57) ∨ (k = 55) ∨ (k = 56) ∨ (k = 58) ∨ (k = 58) ∨ (k = 59) ∨ (k = 60) ∨ (k = 61) ∨ (k = 34 ∧ j = 30)) m0 m → zRI m → (4 * f ≤ a ∧ a ≤ 4 * f + 3) → (∀ q : Nat, q < 4 → m0.1 50 0 (4 * f.toNat + q) ≠ x) → (∀ p : Int, 4 * f < p → p ≤ a → m0.1 50 0 p.toNat < x) → (zHvs m0 m f a) →  wW (zK sc) zM206 25 [(0, .inr (.inr (.inl (some (34, 0))))), (1, .inl f), (2, .inl x), (4, .inl a)] [] n m (wr (fun vv n1 m1 => ∃ r : Int, vv = some (.inl r) ∧ n = n1 ∧ zB c m1 ∧ zfr (fun k i j => (k = 50) ∨ (k = 51) ∨ (k = 52) ∨ (k = 53) ∨ (k = 54) ∨ (k = 57) ∨ (k = 55) ∨ (k = 56) ∨ (k = 58) ∨ (k = 58) ∨ (k = 59) ∨ (k = 60) ∨ (k = 61) ∨ (k = 34 ∧ j = 30)) m0 m1 ∧ (zRI m1 ∧ ((4 * f ≤ r ∧ r ≤ 4 * f + 3) ∧ ((m0.1 50 0 r.toNat = x ∧ m0 = m1) ∨ zHr m0 m1 f x r))))) := by
  intro d
  induction d using Nat.strongRecOn with
  | ind d ih =>
    intro a m hd hGm hFm hRm hi hnf hls hv
    have ka1 : a < 4 * f + 3 → m.1 50 0 (a + 1).toNat = m0.1 50 0 (a + 1).toNat := fun z => ((hv.1) (a + 1) (by omega)).2.2 (by omega)
    refine ww_go 6 (pc' := 32) (L' := [(0, .inr (.inr (.inl (some (34, 0))))), (1, .inl f), (2, .inl x), (4, .inl a)]) (st' := [.inl ((4 * f) + 3), .inl a]) (m' := m) (o := none) rfl trivial ?_
    refine ww_ic (t := 60) rfl rfl (by omega) (fun (h1 : (4 * f) + 3 ≤ a) => ?_) (fun (h1 : ¬ ((4 * f) + 3 ≤ a)) => ?_)
    · show wW (zK sc) zM206 60 [(0, .inr (.inr (.inl (some (34, 0))))), (1, .inl f), (2, .inl x), (4, .inl a)] [] _ _ _
      refine ww_go 5 (pc' := 68) (L' := [(0, .inr (.inr (.inl (some (34, 0))))), (1, .inl f), (2, .inl x), (4, .inl a)]) (st' := []) (m' := wuI m 50 0 a.toNat x) (o := some ((0 < 1) ∧ (0 < 1 ∧ 0 ≤ a ∧ a < ((8 : Nat) : Int)))) rfl (show (0 < 1) ∧ (0 < 1 ∧ 0 ≤ a ∧ a < ((8 : Nat) : Int)) from by omega) ?_
      obtain ⟨m2, hm2⟩ : ∃ zq9 : wm, zq9 = wuI m 50 0 a.toNat x := ⟨_, rfl⟩
      rw [← hm2]
      have hGm2 : zB c m2 := by rw [hm2]; exact zB_wI rfl (show 0 ≤ x ∧ x ≤ 65535 from by omega) hGm
      have hFm2 : zfr (fun k i j => (k = 50) ∨ (k = 51) ∨ (k = 52) ∨ (k = 53) ∨ (k = 54) ∨ (k = 57) ∨ (k = 55) ∨ (k = 56) ∨ (k = 58) ∨ (k = 58) ∨ (k = 59) ∨ (k = 60) ∨ (k = 61) ∨ (k = 34 ∧ j = 30)) m0 m2 := by rw [hm2]; exact zfr_wI hFm (show (50 = 50) ∨ (50 = 51) ∨ (50 = 52) ∨ (50 = 53) ∨ (50 = 54) ∨ (50 = 57) ∨ (50 = 55) ∨ (50 = 56) ∨ (50 = 58) ∨ (50 = 58) ∨ (50 = 59) ∨ (50 = 60) ∨ (50 = 61) ∨ (50 = 34 ∧ a.toNat = 30) from Or.inl rfl)
      have s3 : m2.1 50 0 a.toNat = x := by rw [hm2]; exact wuI_self
      have hRm2 : zRI m2 := by rw [hm2]; exact zRI_wo (by decide) hRm
      refine ww_go 1 (pc' := 70) (L' := [(0, .inr (.inr (.inl (some (34, 0))))), (1, .inl f), (2, .inl x), (4, .inl a)]) (st' := [.inl a]) (m' := m2) (o := none) rfl trivial ?_
      exact ww_rI rfl rfl ⟨_, rfl, rfl, zB_mono hGm2 (by omega), hFm2, ⟨hRm2, ⟨by omega, Or.inr ⟨hnf, hls, by omega, m, hv, hm2⟩⟩⟩⟩
    · show wW (zK sc) zM206 35 [(0, .inr (.inr (.inl (some (34, 0))))), (1, .inl f), (2, .inl x), (4, .inl a)] [] _ _ _
      have b4 : 0 ≤ m.1 50 0 ((a + 1).toNat) ∧ m.1 50 0 ((a + 1).toNat) ≤ 65535 := hGm.1 50 _ rfl _ _
      refine ww_go 7 (pc' := 45) (L' := [(0, .inr (.inr (.inl (some (34, 0))))), (1, .inl f), (2, .inl x), (4, .inl a)]) (st' := [.inl x, .inl (m.1 50 0 ((a + 1).toNat))]) (m' := m) (o := some ((0 < 1) ∧ (0 < 1 ∧ 0 ≤ a + 1 ∧ a + 1 < ((8 : Nat) : Int)))) rfl (show (0 < 1) ∧ (0 < 1 ∧ 0 ≤ a + 1 ∧ a + 1 < ((8 : Nat) : Int)) from by omega) ?_
      refine ww_ic (t := 60) rfl rfl (by omega) (fun (h5 : x ≤ m.1 50 0 ((a + 1).toNat)) => ?_) (fun (h5 : ¬ (x ≤ m.1 50 0 ((a + 1).toNat))) => ?_)
      · show wW (zK sc) zM206 60 [(0, .inr (.inr (.inl (some (34, 0))))), (1, .inl f), (2, .inl x), (4, .inl a)] [] _ _ _
        refine ww_go 5 (pc' := 68) (L' := [(0, .inr (.inr (.inl (some (34, 0))))), (1, .inl f), (2, .inl x), (4, .inl a)]) (st' := []) (m' := wuI m 50 0 a.toNat x) (o := some ((0 < 1) ∧ (0 < 1 ∧ 0 ≤ a ∧ a < ((8 : Nat) : Int)))) rfl (show (0 < 1) ∧ (0 < 1 ∧ 0 ≤ a ∧ a < ((8 : Nat) : Int)) from by omega) ?_
        obtain ⟨m6, hm6⟩ : ∃ zq9 : wm, zq9 = wuI m 50 0 a.toNat x := ⟨_, rfl⟩
        rw [← hm6]
        have hGm6 : zB c m6 := by rw [hm6]; exact zB_wI rfl (show 0 ≤ x ∧ x ≤ 65535 from by omega) hGm
        have hFm6 : zfr (fun k i j => (k = 50) ∨ (k = 51) ∨ (k = 52) ∨ (k = 53) ∨ (k = 54) ∨ (k = 57) ∨ (k = 55) ∨ (k = 56) ∨ (k = 58) ∨ (k = 58) ∨ (k = 59) ∨ (k = 60) ∨ (k = 61) ∨ (k = 34 ∧ j = 30)) m0 m6 := by rw [hm6]; exact zfr_wI hFm (show (50 = 50) ∨ (50 = 51) ∨ (50 = 52) ∨ (50 = 53) ∨ (50 = 54) ∨ (50 = 57) ∨ (50 = 55) ∨ (50 = 56) ∨ (50 = 58) ∨ (50 = 58) ∨ (50 = 59) ∨ (50 = 60) ∨ (50 = 61) ∨ (50 = 34 ∧ a.toNat = 30) from Or.inl rfl)
        have s7 : m6.1 50 0 a.toNat = x := by rw [hm6]; exact wuI_self
        have hRm6 : zRI m6 := by rw [hm6]; exact zRI_wo (by decide) hRm
        refine ww_go 1 (pc' := 70) (L' := [(0, .inr (.inr (.inl (some (34, 0))))), (1, .inl f), (2, .inl x), (4, .inl a)]) (st' := [.inl a]) (m' := m6) (o := none) rfl trivial ?_
        exact ww_rI rfl rfl ⟨_, rfl, rfl, zB_mono hGm6 (by omega), hFm6, ⟨hRm6, ⟨by omega, Or.inr ⟨hnf, hls, by omega, m, hv, hm6⟩⟩⟩⟩
      · show wW (zK sc) zM206 48 [(0, .inr (.inr (.inl (some (34, 0))))), (1, .inl f), (2, .inl x), (4, .inl a)] [] _ _ _
        refine ww_go 3 (pc' := 54) (L' := [(4, .inl (a + 1)), (0, .inr (.inr (.inl (some (34, 0))))), (1, .inl f), (2, .inl x)]) (st' := [.inl (a + 1), .inr (.inr (.inl (some (34, 0))))]) (m' := m) (o := none) rfl trivial ?_
        refine ww_call (vs := [.inr (.inr (.inl (some (34, 0)))), .inl (a + 1)]) (r := []) (p := 0 < 1) rfl rfl rfl rfl (show 0 < 1 from by omega) (yt244 (c := c) (by omega) (a + 1) hGm hRm (by omega)) ?_
        rintro _ _ m10 ⟨rfl, rfl, hGm10, hEm10, hRm10, hr9⟩
        have hFm10 : zfr (fun k i j => (k = 50) ∨ (k = 51) ∨ (k = 52) ∨ (k = 53) ∨ (k = 54) ∨ (k = 57) ∨ (k = 55) ∨ (k = 56) ∨ (k = 58) ∨ (k = 58) ∨ (k = 59) ∨ (k = 60) ∨ (k = 61) ∨ (k = 34 ∧ j = 30)) m0 m10 := zfr_tr hFm hEm10 (fun k i j z => Or.elim z (fun z => Or.inl z) (fun z => Or.elim z (fun z => Or.inr (Or.inl z)) (fun z => Or.elim z (fun z => Or.inr (Or.inr (Or.inl z))) (fun z => Or.elim z (fun z => Or.inr (Or.inr (Or.inr (Or.inl z)))) (fun z => Or.elim z (fun z => Or.inr (Or.inr (Or.inr (Or.inr (Or.inl z))))) (fun z => Or.elim z (fun z => Or.inr (Or.inr (Or.inr (Or.inr (Or.inr (Or.inl z)))))) (fun z => Or.elim z (fun z => Or.inr (Or.inr (Or.inr (Or.inr (Or.inr (Or.inr (Or.inl z))))))) (fun z => Or.elim z (fun z => Or.inr (Or.inr (Or.inr (Or.inr (Or.inr (Or.inr (Or.inr (Or.inl z)))))))) (fun z => Or.inr (Or.inr (Or.inr (Or.inr (Or.inr (Or.inr (Or.inr (Or.inr (Or.inl z)))))))))))))))))
        show wW (zK sc) zM206 57 [(4, .inl (a + 1)), (0, .inr (.inr (.inl (some (34, 0))))), (1, .inl f), (2, .inl x)] [] _ _ _
        refine ww_go 1 (pc' := 25) (L' := [(4, .inl (a + 1)), (0, .inr (.inr (.inl (some (34, 0))))), (1, .inl f), (2, .inl x)]) (st' := []) (m' := m10) (o := none) rfl trivial ?_
        refine ww_sub (L := [(0, .inr (.inr (.inl (some (34, 0))))), (1, .inl f), (2, .inl x), (4, .inl (a + 1))]) ⟨rfl, rfl, rfl, rfl, trivial⟩ rfl rfl ?_
        exact (ih _ (by omega)) (a + 1) m10 rfl (zB_mono hGm10 (by omega)) hFm10 hRm10 (by omega) (by exact hnf) (by exact fun p h1 h2 => (Decidable.em (p ≤ a)).elim (fun w => hls p h1 w) (fun w => (by rw [show p = a + 1 from by omega]; omega))) (by exact zHvs_s hv hr9 (by omega) (by omega))
set_option maxRecDepth 8000 in
/-- Mo.hears -/
theorem yt206 {sc : xSc} {n : Nat × Nat} {m0 : wm} {c : Int} (hc : 0 ≤ c ∧ c ≤ 1000000) (f : Int) (x : Int) (hG : zB c m0) (hR : zRI m0) (h0 : 0 ≤ f ∧ f ≤ 1 ∧ 1 ≤ x ∧ x ≤ 65535) : wX (zK sc) 206 [.inr (.inr (.inl (some (34, 0)))), .inl f, .inl x] n m0 (wr (fun vv n1 m1 => ∃ r : Int, vv = some (.inl r) ∧ n = n1 ∧ zB c m1 ∧ zfr (fun k i j => (k = 50) ∨ (k = 51) ∨ (k = 52) ∨ (k = 53) ∨ (k = 54) ∨ (k = 57) ∨ (k = 55) ∨ (k = 56) ∨ (k = 58) ∨ (k = 58) ∨ (k = 59) ∨ (k = 60) ∨ (k = 61) ∨ (k = 34 ∧ j = 30)) m0 m1 ∧ (zRI m1 ∧ ((4 * f ≤ r ∧ r ≤ 4 * f + 3) ∧ ((m0.1 50 0 r.toNat = x ∧ m0 = m1) ∨ zHr m0 m1 f x r))))) := by
  refine wX_of (N := zM206) rfl (Nat.le_of_ble_eq_true rfl) ?_
  show wW (zK sc) zM206 0 [(0, .inr (.inr (.inl (some (34, 0))))), (1, .inl f), (2, .inl x)] [] n m0 _
  have hF : zfr (fun k i j => (k = 50) ∨ (k = 51) ∨ (k = 52) ∨ (k = 53) ∨ (k = 54) ∨ (k = 57) ∨ (k = 55) ∨ (k = 56) ∨ (k = 58) ∨ (k = 58) ∨ (k = 59) ∨ (k = 60) ∨ (k = 61) ∨ (k = 34 ∧ j = 30)) m0 m0 := zfr_rf
  refine ww_go 3 (pc' := 3) (L' := [(0, .inr (.inr (.inl (some (34, 0))))), (1, .inl f), (2, .inl x)]) (st' := [.inl x, .inl f, .inr (.inr (.inl (some (34, 0))))]) (m' := m0) (o := none) rfl trivial ?_
  refine ww_call (vs := [.inr (.inr (.inl (some (34, 0)))), .inl f, .inl x]) (r := []) (p := 0 < 1) rfl rfl rfl rfl (show 0 < 1 from by omega) (yt231 (c := c) (by omega) f x hG (by omega)) ?_
  rintro _ _ _ ⟨r1, rfl, rfl, rfl, hr2⟩
  show wW (zK sc) zM206 6 [(0, .inr (.inr (.inl (some (34, 0))))), (1, .inl f), (2, .inl x)] [.inl r1] _ _ _
  refine ww_go 2 (pc' := 8) (L' := [(3, .inl r1), (0, .inr (.inr (.inl (some (34, 0))))), (1, .inl f), (2, .inl x)]) (st' := [.inl r1]) (m' := m0) (o := none) rfl trivial ?_
  refine ww_if (t := 13) rfl rfl (by omega) (fun (h3 : r1 < 0) => ?_) (fun (h3 : ¬ (r1 < 0)) => ?_)
  · show wW (zK sc) zM206 13 [(3, .inl r1), (0, .inr (.inr (.inl (some (34, 0))))), (1, .inl f), (2, .inl x)] [] _ _ _
    refine ww_go 4 (pc' := 17) (L' := [(3, .inl r1), (0, .inr (.inr (.inl (some (34, 0))))), (1, .inl f), (2, .inl x)]) (st' := [.inl (4 * f), .inr (.inr (.inl (some (34, 0))))]) (m' := m0) (o := none) rfl trivial ?_
    refine ww_call (vs := [.inr (.inr (.inl (some (34, 0)))), .inl (4 * f)]) (r := []) (p := 0 < 1) rfl rfl rfl rfl (show 0 < 1 from by omega) (yt195 (c := c) (by omega) (4 * f) hG hR (by omega)) ?_
    rintro _ _ m6 ⟨rfl, rfl, hGm6, hEm6, hRm6, hr5⟩
    have hFm6 : zfr (fun k i j => (k = 50) ∨ (k = 51) ∨ (k = 52) ∨ (k = 53) ∨ (k = 54) ∨ (k = 57) ∨ (k = 55) ∨ (k = 56) ∨ (k = 58) ∨ (k = 58) ∨ (k = 59) ∨ (k = 60) ∨ (k = 61) ∨ (k = 34 ∧ j = 30)) m0 m6 := zfr_tr hF hEm6 (fun k i j z => Or.elim z (fun z => Or.inr (Or.inr (Or.inr (Or.inr (Or.inr (Or.inr (Or.inr (Or.inr (Or.inl z))))))))) (fun z => Or.elim z (fun z => Or.inr (Or.inr (Or.inr (Or.inr (Or.inr (Or.inr (Or.inr (Or.inr (Or.inr (Or.inr (Or.inl z))))))))))) (fun z => Or.elim z (fun z => Or.inr (Or.inr (Or.inr (Or.inr (Or.inr (Or.inr (Or.inr (Or.inr (Or.inr (Or.inr (Or.inr (Or.inl z)))))))))))) (fun z => Or.elim z (fun z => Or.inr (Or.inr (Or.inr (Or.inr (Or.inr (Or.inr (Or.inr (Or.inr (Or.inr (Or.inr (Or.inr (Or.inr (Or.inl z))))))))))))) (fun z => Or.elim z (fun z => Or.inr (Or.inr (Or.inr (Or.inr (Or.inr (Or.inr (Or.inr (Or.inr (Or.inr (Or.inr (Or.inr (Or.inr (Or.inr (z)))))))))))))) (fun z => Or.elim z (fun z => Or.inr (Or.inr (Or.inr (Or.inr (Or.inl z))))) (fun z => Or.elim z (fun z => Or.inr (Or.inr (Or.inr (Or.inr (Or.inr (Or.inr (Or.inl z))))))) (fun z => Or.elim z (fun z => Or.inr (Or.inr (Or.inr (Or.inr (Or.inr (Or.inl z)))))) (fun z => Or.elim z (fun z => Or.inl z) (fun z => Or.elim z (fun z => Or.inr (Or.inl z)) (fun z => Or.elim z (fun z => Or.inr (Or.inr (Or.inl z))) (fun z => Or.inr (Or.inr (Or.inr (Or.inl z)))))))))))))))
    show wW (zK sc) zM206 20 [(3, .inl r1), (0, .inr (.inr (.inl (some (34, 0))))), (1, .inl f), (2, .inl x)] [] _ _ _
    refine ww_go 4 (pc' := 25) (L' := [(4, .inl (4 * f)), (3, .inl r1), (0, .inr (.inr (.inl (some (34, 0))))), (1, .inl f), (2, .inl x)]) (st' := []) (m' := m6) (o := none) rfl trivial ?_
    refine ww_sub (L := [(0, .inr (.inr (.inl (some (34, 0))))), (1, .inl f), (2, .inl x), (4, .inl (4 * f))]) ⟨rfl, rfl, rfl, rfl, trivial⟩ rfl rfl ?_
    exact (yt206_l25 hc f x hG hR h0 _) (4 * f) m6 rfl (zB_mono hGm6 (by omega)) hFm6 hRm6 (by omega) (by exact hr2.elim (fun z => z.2) (fun z => absurd z.1 (by omega))) (by exact fun p h1 h2 => absurd h2 (by omega)) (by exact zHvs_0 (by omega) hr5.1 hr5.2.1 hr5.2.2.1 hr5.2.2.2.1 hr5.2.2.2.2.1 hr5.2.2.2.2.2)
  · show wW (zK sc) zM206 11 [(3, .inl r1), (0, .inr (.inr (.inl (some (34, 0))))), (1, .inl f), (2, .inl x)] [] _ _ _
    refine ww_go 1 (pc' := 12) (L' := [(3, .inl r1), (0, .inr (.inr (.inl (some (34, 0))))), (1, .inl f), (2, .inl x)]) (st' := [.inl r1]) (m' := m0) (o := none) rfl trivial ?_
    exact ww_rI rfl rfl ⟨_, rfl, rfl, zB_mono hG (by omega), hF, ⟨hR, ⟨by omega, Or.inl ⟨hr2.elim (fun z => absurd z.1 (by omega)) (fun z => z.2.2), rfl⟩⟩⟩⟩
