set_option maxRecDepth 8000 in
/-- Dl.isFolder -/
theorem zs11 {sc : xSc} {n : Nat × Nat} {m : wm} (x : Int) (h0 : -2147483648 ≤ x ∧ x ≤ 2147483647) : wX (zK sc) 11 [.inl x] n m (wr (fun vv n1 m1 => ∃ r : Int, vv = some (.inl r) ∧ n = n1 ∧ m = m1 ∧ ((r = 1 ∧ 0 ≤ x ∧ x ≤ 1) ∨ (r = 0 ∧ (x < 0 ∨ 1 < x))))) := by
  refine wX_of (N := zM11) rfl (Nat.le_of_ble_eq_true rfl) ?_
  show wW (zK sc) zM11 0 [(0, .inl x)] [] n m _
  refine ww_go 1 (pc' := 1) (L' := [(0, .inl x)]) (st' := [.inl x]) (m' := m) (o := none) rfl trivial ?_
  refine ww_if (t := 13) rfl rfl (by omega) (fun (h1 : x < 0) => ?_) (fun (h1 : ¬ (x < 0)) => ?_)
  · show wW (zK sc) zM11 13 [(0, .inl x)] [] _ _ _
    refine ww_go 1 (pc' := 14) (L' := [(0, .inl x)]) (st' := [.inl 0]) (m' := m) (o := none) rfl trivial ?_
    exact ww_rB rfl rfl (by omega) ⟨_, rfl, rfl, rfl, by omega⟩
  · show wW (zK sc) zM11 4 [(0, .inl x)] [] _ _ _
    refine ww_go 2 (pc' := 6) (L' := [(0, .inl x)]) (st' := [.inl 2, .inl x]) (m' := m) (o := none) rfl trivial ?_
    refine ww_ic (t := 13) rfl rfl (by omega) (fun (h2 : 2 ≤ x) => ?_) (fun (h2 : ¬ (2 ≤ x)) => ?_)
    · show wW (zK sc) zM11 13 [(0, .inl x)] [] _ _ _
      refine ww_go 1 (pc' := 14) (L' := [(0, .inl x)]) (st' := [.inl 0]) (m' := m) (o := none) rfl trivial ?_
      exact ww_rB rfl rfl (by omega) ⟨_, rfl, rfl, rfl, by omega⟩
    · show wW (zK sc) zM11 9 [(0, .inl x)] [] _ _ _
      refine ww_go 2 (pc' := 14) (L' := [(0, .inl x)]) (st' := [.inl 1]) (m' := m) (o := none) rfl trivial ?_
      exact ww_rB rfl rfl (by omega) ⟨_, rfl, rfl, rfl, by omega⟩
set_option maxRecDepth 8000 in
/-- Dl.checkFolder -/
theorem zs2 {sc : xSc} {n : Nat × Nat} {m0 : wm} {c : Int} (hn : n.1 < 2300) (hc : 0 ≤ c ∧ c ≤ 1000000) (x : Int) (hG : zB c m0) (h0 : -2147483648 ≤ x ∧ x ≤ 2147483647) : wX (zK sc) 2 [.inl x] n m0 (fun o n1 m1 => zB c m1 ∧ zfr (fun k i j => False) m0 m1 ∧ ((o = .inl none ∧ n = n1 ∧ (0 ≤ x ∧ x ≤ 1)) ∨ (∃ q : Nat, o = .inr q ∧ (n.1 + 1, n.2 + 6) = n1 ∧ (q = 0 ∧ (x < 0 ∨ 1 < x))))) := by
  refine wX_of (N := zM2) rfl (Nat.le_of_ble_eq_true rfl) ?_
  show wW (zK sc) zM2 0 [(0, .inl x)] [] n m0 _
  have hF : zfr (fun k i j => False) m0 m0 := zfr_rf
  refine ww_go 1 (pc' := 1) (L' := [(0, .inl x)]) (st' := [.inl x]) (m' := m0) (o := none) rfl trivial ?_
  refine ww_call (vs := [.inl x]) (r := []) (p := True) rfl rfl rfl rfl trivial (zs11 x (by omega)) ?_
  rintro _ _ _ ⟨r1, rfl, rfl, rfl, hr2⟩
  show wW (zK sc) zM2 4 [(0, .inl x)] [.inl r1] _ _ _
  refine ww_if (t := 17) rfl rfl (by omega) (fun (h3 : r1 ≠ 0) => ?_) (fun (h3 : ¬ (r1 ≠ 0)) => ?_)
  · show wW (zK sc) zM2 17 [(0, .inl x)] [] _ _ _
    exact ww_rV rfl rfl ⟨zB_mono hG (by omega), hF, Or.inl ⟨rfl, rfl, by omega⟩⟩
  · show wW (zK sc) zM2 7 [(0, .inl x)] [] _ _ _
    exact ww_thr rfl rfl (by decide) rfl (Nat.le_of_ble_eq_true rfl) rfl (by omega) ⟨zB_mono hG (by omega), hF, Or.inr ⟨_, rfl, rfl, by omega⟩⟩
set_option maxRecDepth 8000 in
/-- Dl.checkVersion -/
theorem zs4 {sc : xSc} {n : Nat × Nat} {m0 : wm} {c : Int} (hn : n.1 < 2300) (hc : 0 ≤ c ∧ c ≤ 1000000) (x : Int) (y : Int) (hG : zB c m0) (h0 : -2147483648 ≤ x ∧ x ≤ 2147483647 ∧ -2147483648 ≤ y ∧ y ≤ 2147483647) : wX (zK sc) 4 [.inl x, .inl y] n m0 (fun o n1 m1 => zB c m1 ∧ zfr (fun k i j => False) m0 m1 ∧ ((o = .inl none ∧ n = n1 ∧ (0 ≤ x ∧ x ≤ 1 ∧ 1 ≤ y ∧ y ≤ 65535)) ∨ (∃ q : Nat, o = .inr q ∧ (n.1 + 1, n.2 + 6) = n1 ∧ (q = 0)))) := by
  refine wX_of (N := zM4) rfl (Nat.le_of_ble_eq_true rfl) ?_
  show wW (zK sc) zM4 0 [(0, .inl x), (1, .inl y)] [] n m0 _
  have hF : zfr (fun k i j => False) m0 m0 := zfr_rf
  refine ww_go 1 (pc' := 1) (L' := [(0, .inl x), (1, .inl y)]) (st' := [.inl x]) (m' := m0) (o := none) rfl trivial ?_
  refine ww_call (vs := [.inl x]) (r := []) (p := True) rfl rfl rfl rfl trivial (zs11 x (by omega)) ?_
  rintro _ _ _ ⟨r1, rfl, rfl, rfl, hr2⟩
  show wW (zK sc) zM4 4 [(0, .inl x), (1, .inl y)] [.inl r1] _ _ _
  refine ww_if (t := 18) rfl rfl (by omega) (fun (h3 : r1 = 0) => ?_) (fun (h3 : ¬ (r1 = 0)) => ?_)
  · show wW (zK sc) zM4 18 [(0, .inl x), (1, .inl y)] [] _ _ _
    exact ww_thr rfl rfl (by decide) rfl (Nat.le_of_ble_eq_true rfl) rfl (by omega) ⟨zB_mono hG (by omega), hF, Or.inr ⟨_, rfl, rfl, by omega⟩⟩
  · show wW (zK sc) zM4 7 [(0, .inl x), (1, .inl y)] [] _ _ _
    refine ww_go 2 (pc' := 9) (L' := [(0, .inl x), (1, .inl y)]) (st' := [.inl 1, .inl y]) (m' := m0) (o := none) rfl trivial ?_
    refine ww_ic (t := 18) rfl rfl (by omega) (fun (h4 : y < 1) => ?_) (fun (h4 : ¬ (y < 1)) => ?_)
    · show wW (zK sc) zM4 18 [(0, .inl x), (1, .inl y)] [] _ _ _
      exact ww_thr rfl rfl (by decide) rfl (Nat.le_of_ble_eq_true rfl) rfl (by omega) ⟨zB_mono hG (by omega), hF, Or.inr ⟨_, rfl, rfl, by omega⟩⟩
    · show wW (zK sc) zM4 12 [(0, .inl x), (1, .inl y)] [] _ _ _
      refine ww_go 2 (pc' := 15) (L' := [(0, .inl x), (1, .inl y)]) (st' := [.inl 65535, .inl y]) (m' := m0) (o := none) rfl trivial ?_
      refine ww_ic (t := 28) rfl rfl (by omega) (fun (h5 : y ≤ 65535) => ?_) (fun (h5 : ¬ (y ≤ 65535)) => ?_)
      · show wW (zK sc) zM4 28 [(0, .inl x), (1, .inl y)] [] _ _ _
        exact ww_rV rfl rfl ⟨zB_mono hG (by omega), hF, Or.inl ⟨rfl, rfl, by omega⟩⟩
      · show wW (zK sc) zM4 18 [(0, .inl x), (1, .inl y)] [] _ _ _
        exact ww_thr rfl rfl (by decide) rfl (Nat.le_of_ble_eq_true rfl) rfl (by omega) ⟨zB_mono hG (by omega), hF, Or.inr ⟨_, rfl, rfl, by omega⟩⟩
set_option maxRecDepth 8000 in
/-- Dl.checkSlot -/
theorem zs3 {sc : xSc} {n : Nat × Nat} {m0 : wm} {c : Int} (hn : n.1 < 2300) (hc : 0 ≤ c ∧ c ≤ 1000000) (x : Int) (hG : zB c m0) (h0 : -2147483648 ≤ x ∧ x ≤ 2147483647) : wX (zK sc) 3 [.inr (.inr (.inl (some (0, 0)))), .inl x] n m0 (fun o n1 m1 => zB c m1 ∧ zfr (fun k i j => False) m0 m1 ∧ ((o = .inl none ∧ n = n1 ∧ (0 ≤ x ∧ x ≤ 31 ∧ 1 ≤ m0.1 1 (3 + x.toNat) 1)) ∨ (∃ q : Nat, o = .inr q ∧ (n.1 + 1, n.2 + 6) = n1 ∧ (q = 0 ∧ (x < 0 ∨ 31 < x ∨ m0.1 1 (3 + x.toNat) 1 = 0))))) := by
  refine wX_of (N := zM3) rfl (Nat.le_of_ble_eq_true rfl) ?_
  show wW (zK sc) zM3 0 [(0, .inr (.inr (.inl (some (0, 0))))), (1, .inl x)] [] n m0 _
  have hF : zfr (fun k i j => False) m0 m0 := zfr_rf
  refine ww_go 1 (pc' := 1) (L' := [(0, .inr (.inr (.inl (some (0, 0))))), (1, .inl x)]) (st' := [.inl x]) (m' := m0) (o := none) rfl trivial ?_
  refine ww_if (t := 22) rfl rfl (by omega) (fun (h1 : x < 0) => ?_) (fun (h1 : ¬ (x < 0)) => ?_)
  · show wW (zK sc) zM3 22 [(0, .inr (.inr (.inl (some (0, 0))))), (1, .inl x)] [] _ _ _
    exact ww_thr rfl rfl (by decide) rfl (Nat.le_of_ble_eq_true rfl) rfl (by omega) ⟨zB_mono hG (by omega), hF, Or.inr ⟨_, rfl, rfl, by omega⟩⟩
  · show wW (zK sc) zM3 4 [(0, .inr (.inr (.inl (some (0, 0))))), (1, .inl x)] [] _ _ _
    refine ww_go 2 (pc' := 7) (L' := [(0, .inr (.inr (.inl (some (0, 0))))), (1, .inl x)]) (st' := [.inl 32, .inl x]) (m' := m0) (o := none) rfl trivial ?_
    refine ww_ic (t := 22) rfl rfl (by omega) (fun (h2 : 32 ≤ x) => ?_) (fun (h2 : ¬ (32 ≤ x)) => ?_)
    · show wW (zK sc) zM3 22 [(0, .inr (.inr (.inl (some (0, 0))))), (1, .inl x)] [] _ _ _
      exact ww_thr rfl rfl (by decide) rfl (Nat.le_of_ble_eq_true rfl) rfl (by omega) ⟨zB_mono hG (by omega), hF, Or.inr ⟨_, rfl, rfl, by omega⟩⟩
    · show wW (zK sc) zM3 10 [(0, .inr (.inr (.inl (some (0, 0))))), (1, .inl x)] [] _ _ _
      refine ww_go 4 (pc' := 16) (L' := [(0, .inr (.inr (.inl (some (0, 0))))), (1, .inl x)]) (st' := [.inr (.inr (.inl (some (1, 3 + x.toNat))))]) (m' := m0) (o := some ((0 < 1) ∧ (0 < 1 ∧ 0 ≤ x ∧ x < ((32 : Nat) : Int)))) rfl (show (0 < 1) ∧ (0 < 1 ∧ 0 ≤ x ∧ x < ((32 : Nat) : Int)) from by omega) ?_
      refine ww_call (vs := [.inr (.inr (.inl (some (1, 3 + x.toNat))))]) (r := []) (p := 3 + x.toNat < 171) rfl rfl rfl rfl (show 3 + x.toNat < 171 from by omega) (zs40 (c := c) (by omega) (3 + x.toNat) hG (by omega)) ?_
      rintro _ _ _ ⟨r3, rfl, rfl, rfl, hr4⟩
      show wW (zK sc) zM3 19 [(0, .inr (.inr (.inl (some (0, 0))))), (1, .inl x)] [.inl r3] _ _ _
      refine ww_if (t := 32) rfl rfl (by omega) (fun (h5 : r3 ≠ 0) => ?_) (fun (h5 : ¬ (r3 ≠ 0)) => ?_)
      · show wW (zK sc) zM3 32 [(0, .inr (.inr (.inl (some (0, 0))))), (1, .inl x)] [] _ _ _
        exact ww_rV rfl rfl ⟨zB_mono hG (by omega), hF, Or.inl ⟨rfl, rfl, by omega⟩⟩
      · show wW (zK sc) zM3 22 [(0, .inr (.inr (.inl (some (0, 0))))), (1, .inl x)] [] _ _ _
        exact ww_thr rfl rfl (by decide) rfl (Nat.le_of_ble_eq_true rfl) rfl (by omega) ⟨zB_mono hG (by omega), hF, Or.inr ⟨_, rfl, rfl, by omega⟩⟩
set_option maxRecDepth 8000 in
/-- Dl.feed -/
theorem zs7 {sc : xSc} {n : Nat × Nat} {m0 : wm} {c : Int} (hn : n.1 < 2300) (hc : 0 ≤ c ∧ c ≤ 1000000) (b : Int) (v : Int64) (x : Int) (hG : zB c m0) (h0 : 0 ≤ b ∧ b ≤ 1 ∧ -2147483648 ≤ x ∧ x ≤ 2147483647) : wX (zK sc) 7 [.inr (.inr (.inl (some (0, 0)))), .inl b, .inr (.inl v), .inl x] n m0 (fun o n1 m1 => zB c m1 ∧ zfr (fun k i j => (k = 1 ∧ i = (b : Int).toNat ∧ j = 1) ∨ (k = 2 ∧ i = (b : Int).toNat)) m0 m1 ∧ ((∃ r : Int, o = .inl (some (.inl r)) ∧ n = n1 ∧ ((1 ≤ x ∧ x ≤ 8 ∧ (b = 1 ∧ m0.1 1 1 1 + x ≤ 96 ∧ r = m0.1 1 1 1 + x ∧ m1.1 1 1 1 = r ∧ m1.1 1 0 1 = m0.1 1 0 1 ∨ b = 0 ∧ m0.1 1 0 1 + x ≤ 6 ∧ r = m0.1 1 0 1 + x ∧ m1.1 1 0 1 = r ∧ m1.1 1 1 1 = m0.1 1 1 1)) ∧ (b = 1 → zApd (m1.1 2 1) (m0.1 2 1) (m0.1 1 1 1) x v) ∧ (b = 0 → zApd (m1.1 2 0) (m0.1 2 0) (m0.1 1 0 1) x v))) ∨ (∃ q : Nat, o = .inr q ∧ (n.1 + 1, n.2 + 6) = n1 ∧ (((q = 0 ∧ (x < 1 ∨ 8 < x)) ∨ (q = 1 ∧ 1 ≤ x ∧ x ≤ 8 ∧ (b = 1 ∧ 96 < m0.1 1 1 1 + x ∨ b = 0 ∧ 6 < m0.1 1 0 1 + x))) ∧ m0 = m1)))) := by
  refine wX_of (N := zM7) rfl (Nat.le_of_ble_eq_true rfl) ?_
  show wW (zK sc) zM7 0 [(0, .inr (.inr (.inl (some (0, 0))))), (1, .inl b), (2, .inr (.inl v)), (4, .inl x)] [] n m0 _
  have hF : zfr (fun k i j => (k = 1 ∧ i = (b : Int).toNat ∧ j = 1) ∨ (k = 2 ∧ i = (b : Int).toNat)) m0 m0 := zfr_rf
  have q1 : 0 ≤ m0.1 1 0 1 ∧ m0.1 1 0 1 ≤ 6 := hG.1 1 _ rfl 0 1
  have q2 : 0 ≤ m0.1 1 1 1 ∧ m0.1 1 1 1 ≤ 96 := hG.1 1 _ rfl 1 1
  have l0 : zlim 0 = 6 := rfl
  have l1 : zlim 1 = 96 := rfl
  refine ww_go 2 (pc' := 3) (L' := [(0, .inr (.inr (.inl (some (0, 0))))), (1, .inl b), (2, .inr (.inl v)), (4, .inl x)]) (st' := [.inl 1, .inl x]) (m' := m0) (o := none) rfl trivial ?_
  refine ww_ic (t := 13) rfl rfl (by omega) (fun (h1 : x < 1) => ?_) (fun (h1 : ¬ (x < 1)) => ?_)
  · show wW (zK sc) zM7 13 [(0, .inr (.inr (.inl (some (0, 0))))), (1, .inl b), (2, .inr (.inl v)), (4, .inl x)] [] _ _ _
    exact ww_thr rfl rfl (by decide) rfl (Nat.le_of_ble_eq_true rfl) rfl (by omega) ⟨zB_mono hG (by omega), hF, Or.inr ⟨_, rfl, rfl, ⟨by omega, rfl⟩⟩⟩
  · show wW (zK sc) zM7 6 [(0, .inr (.inr (.inl (some (0, 0))))), (1, .inl b), (2, .inr (.inl v)), (4, .inl x)] [] _ _ _
    refine ww_go 2 (pc' := 10) (L' := [(0, .inr (.inr (.inl (some (0, 0))))), (1, .inl b), (2, .inr (.inl v)), (4, .inl x)]) (st' := [.inl 8, .inl x]) (m' := m0) (o := none) rfl trivial ?_
    refine ww_ic (t := 23) rfl rfl (by omega) (fun (h2 : x ≤ 8) => ?_) (fun (h2 : ¬ (x ≤ 8)) => ?_)
    · show wW (zK sc) zM7 23 [(0, .inr (.inr (.inl (some (0, 0))))), (1, .inl b), (2, .inr (.inl v)), (4, .inl x)] [] _ _ _
      refine ww_go 1 (pc' := 24) (L' := [(0, .inr (.inr (.inl (some (0, 0))))), (1, .inl b), (2, .inr (.inl v)), (4, .inl x)]) (st' := [.inl b]) (m' := m0) (o := none) rfl trivial ?_
      refine ww_if (t := 34) rfl rfl (by omega) (fun (h3 : b = 0) => ?_) (fun (h3 : ¬ (b = 0)) => ?_)
      · show wW (zK sc) zM7 34 [(0, .inr (.inr (.inl (some (0, 0))))), (1, .inl b), (2, .inr (.inl v)), (4, .inl x)] [] _ _ _
        refine ww_go 4 (pc' := 42) (L' := [(5, .inr (.inr (.inl (some (1, 0))))), (0, .inr (.inr (.inl (some (0, 0))))), (1, .inl b), (2, .inr (.inl v)), (4, .inl x)]) (st' := [.inr (.inr (.inl (some (1, 0))))]) (m' := m0) (o := some ((0 < 1))) rfl (show (0 < 1) from by omega) ?_
        refine ww_call (vs := [.inr (.inr (.inl (some (1, 0))))]) (r := []) (p := 0 < 171) rfl rfl rfl rfl (show 0 < 171 from by omega) (zs40 (c := c) (by omega) 0 hG (by omega)) ?_
        rintro _ _ _ ⟨r4, rfl, rfl, rfl, hr5⟩
        show wW (zK sc) zM7 45 [(5, .inr (.inr (.inl (some (1, 0))))), (0, .inr (.inr (.inl (some (0, 0))))), (1, .inl b), (2, .inr (.inl v)), (4, .inl x)] [.inl r4] _ _ _
        refine ww_go 3 (pc' := 50) (L' := [(5, .inr (.inr (.inl (some (1, 0))))), (0, .inr (.inr (.inl (some (0, 0))))), (1, .inl b), (2, .inr (.inl v)), (4, .inl x)]) (st' := [.inr (.inr (.inl (some (1, 0)))), .inl (r4 + x)]) (m' := m0) (o := none) rfl trivial ?_
        refine ww_call (vs := [.inr (.inr (.inl (some (1, 0))))]) (r := [.inl (r4 + x)]) (p := 0 < 171) rfl rfl rfl rfl (show 0 < 171 from by omega) (zs35 (c := c) (by omega) 0 hG (by omega)) ?_
        rintro _ _ _ ⟨r6, rfl, rfl, rfl, hr7⟩
        show wW (zK sc) zM7 53 [(5, .inr (.inr (.inl (some (1, 0))))), (0, .inr (.inr (.inl (some (0, 0))))), (1, .inl b), (2, .inr (.inl v)), (4, .inl x)] [.inl r6, .inl (r4 + x)] _ _ _
        refine ww_ic (t := 66) rfl rfl (by omega) (fun (h8 : r4 + x ≤ r6) => ?_) (fun (h8 : ¬ (r4 + x ≤ r6)) => ?_)
        · show wW (zK sc) zM7 66 [(5, .inr (.inr (.inl (some (1, 0))))), (0, .inr (.inr (.inl (some (0, 0))))), (1, .inl b), (2, .inr (.inl v)), (4, .inl x)] [] _ _ _
          refine ww_go 3 (pc' := 71) (L' := [(5, .inr (.inr (.inl (some (1, 0))))), (0, .inr (.inr (.inl (some (0, 0))))), (1, .inl b), (2, .inr (.inl v)), (4, .inl x)]) (st' := [.inl x, .inr (.inl v), .inr (.inr (.inl (some (1, 0))))]) (m' := m0) (o := none) rfl trivial ?_
          refine ww_call (vs := [.inr (.inr (.inl (some (1, 0)))), .inr (.inl v), .inl x]) (r := []) (p := 0 < 171) rfl rfl rfl rfl (show 0 < 171 from by omega) (zs26 (c := c) (by omega) v x 0 hG (by omega)) ?_
          rintro _ _ m11 ⟨rfl, rfl, hGm11, hEm11, hr10⟩
          have hFm11 : zfr (fun k i j => (k = 1 ∧ i = (b : Int).toNat ∧ j = 1) ∨ (k = 2 ∧ i = (b : Int).toNat)) m0 m11 := zfr_tr hF hEm11 (fun k i j z => Or.elim z (fun z => (show (k = 1 ∧ i = (b : Int).toNat ∧ j = 1) ∨ (k = 2 ∧ i = (b : Int).toNat) from Or.inl ((show k = 1 ∧ i = (b : Int).toNat ∧ j = 1 from by omega)))) (fun z => (show (k = 1 ∧ i = (b : Int).toNat ∧ j = 1) ∨ (k = 2 ∧ i = (b : Int).toNat) from Or.inr ((show k = 2 ∧ i = (b : Int).toNat from by omega)))))
          have w12 : m11.1 1 1 1 = m0.1 1 1 1 := (hEm11 1 1 1 (show ¬ ((1 = 1 ∧ 1 = 0 ∧ 1 = 1) ∨ (1 = 2 ∧ 1 = 0)) from by omega)).1
          show wW (zK sc) zM7 74 [(5, .inr (.inr (.inl (some (1, 0))))), (0, .inr (.inr (.inl (some (0, 0))))), (1, .inl b), (2, .inr (.inl v)), (4, .inl x)] [] _ _ _
          refine ww_go 1 (pc' := 76) (L' := [(5, .inr (.inr (.inl (some (1, 0))))), (0, .inr (.inr (.inl (some (0, 0))))), (1, .inl b), (2, .inr (.inl v)), (4, .inl x)]) (st' := [.inr (.inr (.inl (some (1, 0))))]) (m' := m11) (o := none) rfl trivial ?_
          refine ww_call (vs := [.inr (.inr (.inl (some (1, 0))))]) (r := []) (p := 0 < 171) rfl rfl rfl rfl (show 0 < 171 from by omega) (zs40 (c := c) (by omega) 0 hGm11 (by omega)) ?_
          rintro _ _ _ ⟨r13, rfl, rfl, rfl, hr14⟩
          show wW (zK sc) zM7 79 [(5, .inr (.inr (.inl (some (1, 0))))), (0, .inr (.inr (.inl (some (0, 0))))), (1, .inl b), (2, .inr (.inl v)), (4, .inl x)] [.inl r13] _ _ _
          exact ww_rI rfl rfl ⟨zB_mono hGm11 (by omega), hFm11, Or.inl ⟨_, rfl, rfl, ⟨by omega, fun z => absurd z (by omega), fun _ => hr10.2 (by omega) (by omega)⟩⟩⟩
        · show wW (zK sc) zM7 56 [(5, .inr (.inr (.inl (some (1, 0))))), (0, .inr (.inr (.inl (some (0, 0))))), (1, .inl b), (2, .inr (.inl v)), (4, .inl x)] [] _ _ _
          exact ww_thr rfl rfl (by decide) rfl (Nat.le_of_ble_eq_true rfl) rfl (by omega) ⟨zB_mono hG (by omega), hF, Or.inr ⟨_, rfl, rfl, ⟨by omega, rfl⟩⟩⟩
      · show wW (zK sc) zM7 27 [(0, .inr (.inr (.inl (some (0, 0))))), (1, .inl b), (2, .inr (.inl v)), (4, .inl x)] [] _ _ _
        refine ww_go 5 (pc' := 42) (L' := [(5, .inr (.inr (.inl (some (1, 1))))), (0, .inr (.inr (.inl (some (0, 0))))), (1, .inl b), (2, .inr (.inl v)), (4, .inl x)]) (st' := [.inr (.inr (.inl (some (1, 1))))]) (m' := m0) (o := some ((0 < 1))) rfl (show (0 < 1) from by omega) ?_
        refine ww_call (vs := [.inr (.inr (.inl (some (1, 1))))]) (r := []) (p := 1 < 171) rfl rfl rfl rfl (show 1 < 171 from by omega) (zs40 (c := c) (by omega) 1 hG (by omega)) ?_
        rintro _ _ _ ⟨r15, rfl, rfl, rfl, hr16⟩
        show wW (zK sc) zM7 45 [(5, .inr (.inr (.inl (some (1, 1))))), (0, .inr (.inr (.inl (some (0, 0))))), (1, .inl b), (2, .inr (.inl v)), (4, .inl x)] [.inl r15] _ _ _
        refine ww_go 3 (pc' := 50) (L' := [(5, .inr (.inr (.inl (some (1, 1))))), (0, .inr (.inr (.inl (some (0, 0))))), (1, .inl b), (2, .inr (.inl v)), (4, .inl x)]) (st' := [.inr (.inr (.inl (some (1, 1)))), .inl (r15 + x)]) (m' := m0) (o := none) rfl trivial ?_
        refine ww_call (vs := [.inr (.inr (.inl (some (1, 1))))]) (r := [.inl (r15 + x)]) (p := 1 < 171) rfl rfl rfl rfl (show 1 < 171 from by omega) (zs35 (c := c) (by omega) 1 hG (by omega)) ?_
        rintro _ _ _ ⟨r17, rfl, rfl, rfl, hr18⟩
        show wW (zK sc) zM7 53 [(5, .inr (.inr (.inl (some (1, 1))))), (0, .inr (.inr (.inl (some (0, 0))))), (1, .inl b), (2, .inr (.inl v)), (4, .inl x)] [.inl r17, .inl (r15 + x)] _ _ _
        refine ww_ic (t := 66) rfl rfl (by omega) (fun (h19 : r15 + x ≤ r17) => ?_) (fun (h19 : ¬ (r15 + x ≤ r17)) => ?_)
        · show wW (zK sc) zM7 66 [(5, .inr (.inr (.inl (some (1, 1))))), (0, .inr (.inr (.inl (some (0, 0))))), (1, .inl b), (2, .inr (.inl v)), (4, .inl x)] [] _ _ _
          refine ww_go 3 (pc' := 71) (L' := [(5, .inr (.inr (.inl (some (1, 1))))), (0, .inr (.inr (.inl (some (0, 0))))), (1, .inl b), (2, .inr (.inl v)), (4, .inl x)]) (st' := [.inl x, .inr (.inl v), .inr (.inr (.inl (some (1, 1))))]) (m' := m0) (o := none) rfl trivial ?_
          refine ww_call (vs := [.inr (.inr (.inl (some (1, 1)))), .inr (.inl v), .inl x]) (r := []) (p := 1 < 171) rfl rfl rfl rfl (show 1 < 171 from by omega) (zs26 (c := c) (by omega) v x 1 hG (by omega)) ?_
          rintro _ _ m22 ⟨rfl, rfl, hGm22, hEm22, hr21⟩
          have hFm22 : zfr (fun k i j => (k = 1 ∧ i = (b : Int).toNat ∧ j = 1) ∨ (k = 2 ∧ i = (b : Int).toNat)) m0 m22 := zfr_tr hF hEm22 (fun k i j z => Or.elim z (fun z => (show (k = 1 ∧ i = (b : Int).toNat ∧ j = 1) ∨ (k = 2 ∧ i = (b : Int).toNat) from Or.inl ((show k = 1 ∧ i = (b : Int).toNat ∧ j = 1 from by omega)))) (fun z => (show (k = 1 ∧ i = (b : Int).toNat ∧ j = 1) ∨ (k = 2 ∧ i = (b : Int).toNat) from Or.inr ((show k = 2 ∧ i = (b : Int).toNat from by omega)))))
          have w23 : m22.1 1 0 1 = m0.1 1 0 1 := (hEm22 1 0 1 (show ¬ ((1 = 1 ∧ 0 = 1 ∧ 1 = 1) ∨ (1 = 2 ∧ 0 = 1)) from by omega)).1
          show wW (zK sc) zM7 74 [(5, .inr (.inr (.inl (some (1, 1))))), (0, .inr (.inr (.inl (some (0, 0))))), (1, .inl b), (2, .inr (.inl v)), (4, .inl x)] [] _ _ _
          refine ww_go 1 (pc' := 76) (L' := [(5, .inr (.inr (.inl (some (1, 1))))), (0, .inr (.inr (.inl (some (0, 0))))), (1, .inl b), (2, .inr (.inl v)), (4, .inl x)]) (st' := [.inr (.inr (.inl (some (1, 1))))]) (m' := m22) (o := none) rfl trivial ?_
          refine ww_call (vs := [.inr (.inr (.inl (some (1, 1))))]) (r := []) (p := 1 < 171) rfl rfl rfl rfl (show 1 < 171 from by omega) (zs40 (c := c) (by omega) 1 hGm22 (by omega)) ?_
          rintro _ _ _ ⟨r24, rfl, rfl, rfl, hr25⟩
          show wW (zK sc) zM7 79 [(5, .inr (.inr (.inl (some (1, 1))))), (0, .inr (.inr (.inl (some (0, 0))))), (1, .inl b), (2, .inr (.inl v)), (4, .inl x)] [.inl r24] _ _ _
          exact ww_rI rfl rfl ⟨zB_mono hGm22 (by omega), hFm22, Or.inl ⟨_, rfl, rfl, ⟨by omega, fun _ => hr21.2 (by omega) (by omega), fun z => absurd z (by omega)⟩⟩⟩
        · show wW (zK sc) zM7 56 [(5, .inr (.inr (.inl (some (1, 1))))), (0, .inr (.inr (.inl (some (0, 0))))), (1, .inl b), (2, .inr (.inl v)), (4, .inl x)] [] _ _ _
          exact ww_thr rfl rfl (by decide) rfl (Nat.le_of_ble_eq_true rfl) rfl (by omega) ⟨zB_mono hG (by omega), hF, Or.inr ⟨_, rfl, rfl, ⟨by omega, rfl⟩⟩⟩
    · show wW (zK sc) zM7 13 [(0, .inr (.inr (.inl (some (0, 0))))), (1, .inl b), (2, .inr (.inl v)), (4, .inl x)] [] _ _ _
      exact ww_thr rfl rfl (by decide) rfl (Nat.le_of_ble_eq_true rfl) rfl (by omega) ⟨zB_mono hG (by omega), hF, Or.inr ⟨_, rfl, rfl, ⟨by omega, rfl⟩⟩⟩
set_option maxRecDepth 8000 in
/-- Dl.write -/
theorem zs24 {sc : xSc} {n : Nat × Nat} {m0 : wm} {c : Int} (hn : n.1 < 2300) (hc : 0 ≤ c ∧ c ≤ 1000000) (x : Int) (hG : zB c m0) (h0 : -2147483648 ≤ x ∧ x ≤ 2147483647) (hD : zDi m0) : wX (zK sc) 24 [.inr (.inr (.inl (some (0, 0)))), .inl x] n m0 (fun o n1 m1 => zB c m1 ∧ zfr (fun k i j => (k = 1 ∧ (i < 2 ∨ (35 + 6 * x.toNat ≤ i ∧ i < 41 + 6 * x.toNat ∨ 47 + 6 * x.toNat ≤ i ∧ i < 53 + 6 * x.toNat) ∧ 0 ≤ x ∧ x ≤ 1) ∧ j = 1) ∨ (k = 2 ∧ (35 + 6 * x.toNat ≤ i ∧ i < 41 + 6 * x.toNat ∨ 47 + 6 * x.toNat ≤ i ∧ i < 53 + 6 * x.toNat) ∧ 0 ≤ x ∧ x ≤ 1) ∨ (k = 6 ∧ i = x.toNat ∧ j = 3 ∧ 0 ≤ x ∧ x ≤ 1) ∨ (k = 7 ∧ i = x.toNat ∧ 0 ≤ x ∧ x ≤ 1) ∨ (k = 8 ∧ i = x.toNat ∧ 0 ≤ x ∧ x ≤ 1)) m0 m1 ∧ ((∃ r : Int, o = .inl (some (.inl r)) ∧ n = n1 ∧ (m1.1 1 0 1 = 0 ∧ m1.1 1 1 1 = 0 ∧ 0 ≤ x ∧ x ≤ 1 ∧ zNm (zBR m0 0) ∧ zPut (zCF m0 x.toNat) (m0.1 6 x.toNat 3) (zBR m0 0) (zBR m0 1) (zCF m1 x.toNat) (m1.1 6 x.toNat 3) r ∧ 1 ≤ r ∧ zDi m1)) ∨ (∃ q : Nat, o = .inr q ∧ (n.1 + 1, n.2 + 6) = n1 ∧ (m1.1 1 0 1 = 0 ∧ m1.1 1 1 1 = 0 ∧ ((q = 0 ∧ (x < 0 ∨ 1 < x ∨ ¬ zNm (zBR m0 0)) ∧ zfr (fun k i j => k = 1 ∧ i < 2 ∧ j = 1) m0 m1) ∨ (q = 1 ∧ 0 ≤ x ∧ x ≤ 1 ∧ zNm (zBR m0 0) ∧ zPut (zCF m0 x.toNat) (m0.1 6 x.toNat 3) (zBR m0 0) (zBR m0 1) (zCF m1 x.toNat) (m1.1 6 x.toNat 3) 0 ∧ zDi m1)))))) := by
  refine wX_of (N := zM24) rfl (Nat.le_of_ble_eq_true rfl) ?_
  show wW (zK sc) zM24 0 [(0, .inr (.inr (.inl (some (0, 0))))), (1, .inl x)] [] n m0 _
  have hF : zfr (fun k i j => (k = 1 ∧ (i < 2 ∨ (35 + 6 * x.toNat ≤ i ∧ i < 41 + 6 * x.toNat ∨ 47 + 6 * x.toNat ≤ i ∧ i < 53 + 6 * x.toNat) ∧ 0 ≤ x ∧ x ≤ 1) ∧ j = 1) ∨ (k = 2 ∧ (35 + 6 * x.toNat ≤ i ∧ i < 41 + 6 * x.toNat ∨ 47 + 6 * x.toNat ≤ i ∧ i < 53 + 6 * x.toNat) ∧ 0 ≤ x ∧ x ≤ 1) ∨ (k = 6 ∧ i = x.toNat ∧ j = 3 ∧ 0 ≤ x ∧ x ≤ 1) ∨ (k = 7 ∧ i = x.toNat ∧ 0 ≤ x ∧ x ≤ 1) ∨ (k = 8 ∧ i = x.toNat ∧ 0 ≤ x ∧ x ≤ 1)) m0 m0 := zfr_rf
  have q1 : 0 ≤ m0.1 1 0 1 ∧ m0.1 1 0 1 ≤ 6 := hG.1 1 _ rfl 0 1
  have q2 : 0 ≤ m0.1 1 1 1 ∧ m0.1 1 1 1 ≤ 96 := hG.1 1 _ rfl 1 1
  have l0 : zlim 0 = 6 := rfl
  have l1 : zlim 1 = 96 := rfl
  have b63 : 0 ≤ m0.1 6 x.toNat 3 ∧ m0.1 6 x.toNat 3 ≤ 6 := hG.1 6 _ rfl _ _
  refine ww_go 1 (pc' := 1) (L' := [(0, .inr (.inr (.inl (some (0, 0))))), (1, .inl x)]) (st' := [.inl x]) (m' := m0) (o := none) rfl trivial ?_
  refine ww_call (vs := [.inl x]) (r := []) (p := True) rfl rfl rfl rfl trivial (zs11 x (by omega)) ?_
  rintro _ _ _ ⟨r1, rfl, rfl, rfl, hr2⟩
  show wW (zK sc) zM24 4 [(0, .inr (.inr (.inl (some (0, 0))))), (1, .inl x)] [.inl r1] _ _ _
  refine ww_if (t := 29) rfl rfl (by omega) (fun (h3 : r1 = 0) => ?_) (fun (h3 : ¬ (r1 = 0)) => ?_)
  · show wW (zK sc) zM24 29 [(0, .inr (.inr (.inl (some (0, 0))))), (1, .inl x)] [] _ _ _
    refine ww_go 3 (pc' := 32) (L' := [(2, .inl 0), (0, .inr (.inr (.inl (some (0, 0))))), (1, .inl x)]) (st' := [.inl 0]) (m' := m0) (o := none) rfl trivial ?_
    refine ww_if (t := 57) rfl rfl (by decide) (fun (h4 : (0 : Int) = 0) => ?_) (fun (h4 : ¬ ((0 : Int) = 0)) => absurd (show (0 : Int) = 0 from by decide) h4)
    show wW (zK sc) zM24 57 [(2, .inl 0), (0, .inr (.inr (.inl (some (0, 0))))), (1, .inl x)] [] _ _ _
    refine ww_go 4 (pc' := 63) (L' := [(3, .inl 0), (2, .inl 0), (0, .inr (.inr (.inl (some (0, 0))))), (1, .inl x)]) (st' := [.inr (.inr (.inl (some (1, 0))))]) (m' := m0) (o := some ((0 < 1))) rfl (show (0 < 1) from by omega) ?_
    refine ww_call (vs := [.inr (.inr (.inl (some (1, 0))))]) (r := []) (p := 0 < 171) rfl rfl rfl rfl (show 0 < 171 from by omega) (zs29 (c := c) (by omega) 0 hG (by omega)) ?_
    rintro _ _ m7 ⟨rfl, rfl, hGm7, hEm7, hr6⟩
    have hFm7 : zfr (fun k i j => (k = 1 ∧ (i < 2 ∨ (35 + 6 * x.toNat ≤ i ∧ i < 41 + 6 * x.toNat ∨ 47 + 6 * x.toNat ≤ i ∧ i < 53 + 6 * x.toNat) ∧ 0 ≤ x ∧ x ≤ 1) ∧ j = 1) ∨ (k = 2 ∧ (35 + 6 * x.toNat ≤ i ∧ i < 41 + 6 * x.toNat ∨ 47 + 6 * x.toNat ≤ i ∧ i < 53 + 6 * x.toNat) ∧ 0 ≤ x ∧ x ≤ 1) ∨ (k = 6 ∧ i = x.toNat ∧ j = 3 ∧ 0 ≤ x ∧ x ≤ 1) ∨ (k = 7 ∧ i = x.toNat ∧ 0 ≤ x ∧ x ≤ 1) ∨ (k = 8 ∧ i = x.toNat ∧ 0 ≤ x ∧ x ≤ 1)) m0 m7 := zfr_tr hF hEm7 (fun k i j z => (show (k = 1 ∧ (i < 2 ∨ (35 + 6 * x.toNat ≤ i ∧ i < 41 + 6 * x.toNat ∨ 47 + 6 * x.toNat ≤ i ∧ i < 53 + 6 * x.toNat) ∧ 0 ≤ x ∧ x ≤ 1) ∧ j = 1) ∨ (k = 2 ∧ (35 + 6 * x.toNat ≤ i ∧ i < 41 + 6 * x.toNat ∨ 47 + 6 * x.toNat ≤ i ∧ i < 53 + 6 * x.toNat) ∧ 0 ≤ x ∧ x ≤ 1) ∨ (k = 6 ∧ i = x.toNat ∧ j = 3 ∧ 0 ≤ x ∧ x ≤ 1) ∨ (k = 7 ∧ i = x.toNat ∧ 0 ≤ x ∧ x ≤ 1) ∨ (k = 8 ∧ i = x.toNat ∧ 0 ≤ x ∧ x ≤ 1) from Or.inl ((show k = 1 ∧ (i < 2 ∨ (35 + 6 * x.toNat ≤ i ∧ i < 41 + 6 * x.toNat ∨ 47 + 6 * x.toNat ≤ i ∧ i < 53 + 6 * x.toNat) ∧ 0 ≤ x ∧ x ≤ 1) ∧ j = 1 from by omega))))
    have w8 : m7.1 1 1 1 = m0.1 1 1 1 := (hEm7 1 1 1 (show ¬ ((1 = 1 ∧ 1 = 0 ∧ 1 = 1)) from by omega)).1
    show wW (zK sc) zM24 66 [(3, .inl 0), (2, .inl 0), (0, .inr (.inr (.inl (some (0, 0))))), (1, .inl x)] [] _ _ _
    refine ww_go 2 (pc' := 70) (L' := [(3, .inl 0), (2, .inl 0), (0, .inr (.inr (.inl (some (0, 0))))), (1, .inl x)]) (st' := [.inr (.inr (.inl (some (1, 1))))]) (m' := m7) (o := some ((0 < 1))) rfl (show (0 < 1) from by omega) ?_
    refine ww_call (vs := [.inr (.inr (.inl (some (1, 1))))]) (r := []) (p := 1 < 171) rfl rfl rfl rfl (show 1 < 171 from by omega) (zs29 (c := c) (by omega) 1 hGm7 (by omega)) ?_
    rintro _ _ m11 ⟨rfl, rfl, hGm11, hEm11, hr10⟩
    have hFm11 : zfr (fun k i j => (k = 1 ∧ (i < 2 ∨ (35 + 6 * x.toNat ≤ i ∧ i < 41 + 6 * x.toNat ∨ 47 + 6 * x.toNat ≤ i ∧ i < 53 + 6 * x.toNat) ∧ 0 ≤ x ∧ x ≤ 1) ∧ j = 1) ∨ (k = 2 ∧ (35 + 6 * x.toNat ≤ i ∧ i < 41 + 6 * x.toNat ∨ 47 + 6 * x.toNat ≤ i ∧ i < 53 + 6 * x.toNat) ∧ 0 ≤ x ∧ x ≤ 1) ∨ (k = 6 ∧ i = x.toNat ∧ j = 3 ∧ 0 ≤ x ∧ x ≤ 1) ∨ (k = 7 ∧ i = x.toNat ∧ 0 ≤ x ∧ x ≤ 1) ∨ (k = 8 ∧ i = x.toNat ∧ 0 ≤ x ∧ x ≤ 1)) m0 m11 := zfr_tr hFm7 hEm11 (fun k i j z => (show (k = 1 ∧ (i < 2 ∨ (35 + 6 * x.toNat ≤ i ∧ i < 41 + 6 * x.toNat ∨ 47 + 6 * x.toNat ≤ i ∧ i < 53 + 6 * x.toNat) ∧ 0 ≤ x ∧ x ≤ 1) ∧ j = 1) ∨ (k = 2 ∧ (35 + 6 * x.toNat ≤ i ∧ i < 41 + 6 * x.toNat ∨ 47 + 6 * x.toNat ≤ i ∧ i < 53 + 6 * x.toNat) ∧ 0 ≤ x ∧ x ≤ 1) ∨ (k = 6 ∧ i = x.toNat ∧ j = 3 ∧ 0 ≤ x ∧ x ≤ 1) ∨ (k = 7 ∧ i = x.toNat ∧ 0 ≤ x ∧ x ≤ 1) ∨ (k = 8 ∧ i = x.toNat ∧ 0 ≤ x ∧ x ≤ 1) from Or.inl ((show k = 1 ∧ (i < 2 ∨ (35 + 6 * x.toNat ≤ i ∧ i < 41 + 6 * x.toNat ∨ 47 + 6 * x.toNat ≤ i ∧ i < 53 + 6 * x.toNat) ∧ 0 ≤ x ∧ x ≤ 1) ∧ j = 1 from by omega))))
    have w12 : m11.1 1 0 1 = m7.1 1 0 1 := (hEm11 1 0 1 (show ¬ ((1 = 1 ∧ 0 = 1 ∧ 1 = 1)) from by omega)).1
    show wW (zK sc) zM24 73 [(3, .inl 0), (2, .inl 0), (0, .inr (.inr (.inl (some (0, 0))))), (1, .inl x)] [] _ _ _
    refine ww_go 1 (pc' := 74) (L' := [(3, .inl 0), (2, .inl 0), (0, .inr (.inr (.inl (some (0, 0))))), (1, .inl x)]) (st' := [.inl 0]) (m' := m11) (o := none) rfl trivial ?_
    refine ww_if (t := 87) rfl rfl (by decide) (fun (h13 : (0 : Int) ≠ 0) => absurd h13 (by decide)) (fun (h13 : ¬ ((0 : Int) ≠ 0)) => ?_)
    show wW (zK sc) zM24 77 [(3, .inl 0), (2, .inl 0), (0, .inr (.inr (.inl (some (0, 0))))), (1, .inl x)] [] _ _ _
    have zc14 : zfr (fun k i j => k = 1 ∧ i < 2 ∧ j = 1) m0 m7 := zfr_tr (zfr_rf) hEm7 (fun k i j z => by have z9 : (k = 1 ∧ i = 0 ∧ j = 1) := z; exact (show k = 1 ∧ i < 2 ∧ j = 1 from by omega))
    have zc15 : zfr (fun k i j => k = 1 ∧ i < 2 ∧ j = 1) m0 m11 := zfr_tr (zc14) hEm11 (fun k i j z => by have z9 : (k = 1 ∧ i = 1 ∧ j = 1) := z; exact (show k = 1 ∧ i < 2 ∧ j = 1 from by omega))
    exact ww_thr rfl rfl (by decide) rfl (Nat.le_of_ble_eq_true rfl) rfl (by omega) ⟨zB_mono hGm11 (by omega), hFm11, Or.inr ⟨_, rfl, rfl, ⟨by omega, by omega, Or.inl ⟨rfl, (show x < 0 ∨ 1 < x from by omega).elim Or.inl (fun z => Or.inr (Or.inl z)), zc15⟩⟩⟩⟩
  · show wW (zK sc) zM24 7 [(0, .inr (.inr (.inl (some (0, 0))))), (1, .inl x)] [] _ _ _
    refine ww_go 5 (pc' := 16) (L' := [(0, .inr (.inr (.inl (some (0, 0))))), (1, .inl x)]) (st' := [.inr (.inr (.inl (some (1, 0)))), .inl 0, .inr (.inr (.inl (some (1, 0))))]) (m' := m0) (o := some ((0 < 1) ∧ (0 < 1))) rfl (show (0 < 1) ∧ (0 < 1) from by omega) ?_
    refine ww_call (vs := [.inr (.inr (.inl (some (1, 0))))]) (r := [.inl 0, .inr (.inr (.inl (some (1, 0))))]) (p := 0 < 171) rfl rfl rfl rfl (show 0 < 171 from by omega) (zs40 (c := c) (by omega) 0 hG (by omega)) ?_
    rintro _ _ _ ⟨r16, rfl, rfl, rfl, hr17⟩
    show wW (zK sc) zM24 19 [(0, .inr (.inr (.inl (some (0, 0))))), (1, .inl x)] [.inl r16, .inl 0, .inr (.inr (.inl (some (1, 0))))] _ _ _
    refine ww_call (vs := [.inr (.inr (.inl (some (1, 0)))), .inl 0, .inl r16]) (r := []) (p := 0 < 171) rfl rfl rfl rfl (show 0 < 171 from by omega) (zs34 (c := c) (by omega) 0 r16 0 hG (by omega)) ?_
    rintro _ _ _ ⟨r18, rfl, rfl, rfl, hr19⟩
    show wW (zK sc) zM24 22 [(0, .inr (.inr (.inl (some (0, 0))))), (1, .inl x)] [.inl r18] _ _ _
    refine ww_if (t := 29) rfl rfl (by omega) (fun (h20 : r18 = 0) => ?_) (fun (h20 : ¬ (r18 = 0)) => ?_)
    · show wW (zK sc) zM24 29 [(0, .inr (.inr (.inl (some (0, 0))))), (1, .inl x)] [] _ _ _
      refine ww_go 3 (pc' := 32) (L' := [(2, .inl 0), (0, .inr (.inr (.inl (some (0, 0))))), (1, .inl x)]) (st' := [.inl 0]) (m' := m0) (o := none) rfl trivial ?_
      refine ww_if (t := 57) rfl rfl (by decide) (fun (h21 : (0 : Int) = 0) => ?_) (fun (h21 : ¬ ((0 : Int) = 0)) => absurd (show (0 : Int) = 0 from by decide) h21)
      show wW (zK sc) zM24 57 [(2, .inl 0), (0, .inr (.inr (.inl (some (0, 0))))), (1, .inl x)] [] _ _ _
      refine ww_go 4 (pc' := 63) (L' := [(3, .inl 0), (2, .inl 0), (0, .inr (.inr (.inl (some (0, 0))))), (1, .inl x)]) (st' := [.inr (.inr (.inl (some (1, 0))))]) (m' := m0) (o := some ((0 < 1))) rfl (show (0 < 1) from by omega) ?_
      refine ww_call (vs := [.inr (.inr (.inl (some (1, 0))))]) (r := []) (p := 0 < 171) rfl rfl rfl rfl (show 0 < 171 from by omega) (zs29 (c := c) (by omega) 0 hG (by omega)) ?_
      rintro _ _ m24 ⟨rfl, rfl, hGm24, hEm24, hr23⟩
      have hFm24 : zfr (fun k i j => (k = 1 ∧ (i < 2 ∨ (35 + 6 * x.toNat ≤ i ∧ i < 41 + 6 * x.toNat ∨ 47 + 6 * x.toNat ≤ i ∧ i < 53 + 6 * x.toNat) ∧ 0 ≤ x ∧ x ≤ 1) ∧ j = 1) ∨ (k = 2 ∧ (35 + 6 * x.toNat ≤ i ∧ i < 41 + 6 * x.toNat ∨ 47 + 6 * x.toNat ≤ i ∧ i < 53 + 6 * x.toNat) ∧ 0 ≤ x ∧ x ≤ 1) ∨ (k = 6 ∧ i = x.toNat ∧ j = 3 ∧ 0 ≤ x ∧ x ≤ 1) ∨ (k = 7 ∧ i = x.toNat ∧ 0 ≤ x ∧ x ≤ 1) ∨ (k = 8 ∧ i = x.toNat ∧ 0 ≤ x ∧ x ≤ 1)) m0 m24 := zfr_tr hF hEm24 (fun k i j z => (show (k = 1 ∧ (i < 2 ∨ (35 + 6 * x.toNat ≤ i ∧ i < 41 + 6 * x.toNat ∨ 47 + 6 * x.toNat ≤ i ∧ i < 53 + 6 * x.toNat) ∧ 0 ≤ x ∧ x ≤ 1) ∧ j = 1) ∨ (k = 2 ∧ (35 + 6 * x.toNat ≤ i ∧ i < 41 + 6 * x.toNat ∨ 47 + 6 * x.toNat ≤ i ∧ i < 53 + 6 * x.toNat) ∧ 0 ≤ x ∧ x ≤ 1) ∨ (k = 6 ∧ i = x.toNat ∧ j = 3 ∧ 0 ≤ x ∧ x ≤ 1) ∨ (k = 7 ∧ i = x.toNat ∧ 0 ≤ x ∧ x ≤ 1) ∨ (k = 8 ∧ i = x.toNat ∧ 0 ≤ x ∧ x ≤ 1) from Or.inl ((show k = 1 ∧ (i < 2 ∨ (35 + 6 * x.toNat ≤ i ∧ i < 41 + 6 * x.toNat ∨ 47 + 6 * x.toNat ≤ i ∧ i < 53 + 6 * x.toNat) ∧ 0 ≤ x ∧ x ≤ 1) ∧ j = 1 from by omega))))
      have w25 : m24.1 1 1 1 = m0.1 1 1 1 := (hEm24 1 1 1 (show ¬ ((1 = 1 ∧ 1 = 0 ∧ 1 = 1)) from by omega)).1
      show wW (zK sc) zM24 66 [(3, .inl 0), (2, .inl 0), (0, .inr (.inr (.inl (some (0, 0))))), (1, .inl x)] [] _ _ _
      refine ww_go 2 (pc' := 70) (L' := [(3, .inl 0), (2, .inl 0), (0, .inr (.inr (.inl (some (0, 0))))), (1, .inl x)]) (st' := [.inr (.inr (.inl (some (1, 1))))]) (m' := m24) (o := some ((0 < 1))) rfl (show (0 < 1) from by omega) ?_
      refine ww_call (vs := [.inr (.inr (.inl (some (1, 1))))]) (r := []) (p := 1 < 171) rfl rfl rfl rfl (show 1 < 171 from by omega) (zs29 (c := c) (by omega) 1 hGm24 (by omega)) ?_
      rintro _ _ m28 ⟨rfl, rfl, hGm28, hEm28, hr27⟩
      have hFm28 : zfr (fun k i j => (k = 1 ∧ (i < 2 ∨ (35 + 6 * x.toNat ≤ i ∧ i < 41 + 6 * x.toNat ∨ 47 + 6 * x.toNat ≤ i ∧ i < 53 + 6 * x.toNat) ∧ 0 ≤ x ∧ x ≤ 1) ∧ j = 1) ∨ (k = 2 ∧ (35 + 6 * x.toNat ≤ i ∧ i < 41 + 6 * x.toNat ∨ 47 + 6 * x.toNat ≤ i ∧ i < 53 + 6 * x.toNat) ∧ 0 ≤ x ∧ x ≤ 1) ∨ (k = 6 ∧ i = x.toNat ∧ j = 3 ∧ 0 ≤ x ∧ x ≤ 1) ∨ (k = 7 ∧ i = x.toNat ∧ 0 ≤ x ∧ x ≤ 1) ∨ (k = 8 ∧ i = x.toNat ∧ 0 ≤ x ∧ x ≤ 1)) m0 m28 := zfr_tr hFm24 hEm28 (fun k i j z => (show (k = 1 ∧ (i < 2 ∨ (35 + 6 * x.toNat ≤ i ∧ i < 41 + 6 * x.toNat ∨ 47 + 6 * x.toNat ≤ i ∧ i < 53 + 6 * x.toNat) ∧ 0 ≤ x ∧ x ≤ 1) ∧ j = 1) ∨ (k = 2 ∧ (35 + 6 * x.toNat ≤ i ∧ i < 41 + 6 * x.toNat ∨ 47 + 6 * x.toNat ≤ i ∧ i < 53 + 6 * x.toNat) ∧ 0 ≤ x ∧ x ≤ 1) ∨ (k = 6 ∧ i = x.toNat ∧ j = 3 ∧ 0 ≤ x ∧ x ≤ 1) ∨ (k = 7 ∧ i = x.toNat ∧ 0 ≤ x ∧ x ≤ 1) ∨ (k = 8 ∧ i = x.toNat ∧ 0 ≤ x ∧ x ≤ 1) from Or.inl ((show k = 1 ∧ (i < 2 ∨ (35 + 6 * x.toNat ≤ i ∧ i < 41 + 6 * x.toNat ∨ 47 + 6 * x.toNat ≤ i ∧ i < 53 + 6 * x.toNat) ∧ 0 ≤ x ∧ x ≤ 1) ∧ j = 1 from by omega))))
      have w29 : m28.1 1 0 1 = m24.1 1 0 1 := (hEm28 1 0 1 (show ¬ ((1 = 1 ∧ 0 = 1 ∧ 1 = 1)) from by omega)).1
      show wW (zK sc) zM24 73 [(3, .inl 0), (2, .inl 0), (0, .inr (.inr (.inl (some (0, 0))))), (1, .inl x)] [] _ _ _
      refine ww_go 1 (pc' := 74) (L' := [(3, .inl 0), (2, .inl 0), (0, .inr (.inr (.inl (some (0, 0))))), (1, .inl x)]) (st' := [.inl 0]) (m' := m28) (o := none) rfl trivial ?_
      refine ww_if (t := 87) rfl rfl (by decide) (fun (h30 : (0 : Int) ≠ 0) => absurd h30 (by decide)) (fun (h30 : ¬ ((0 : Int) ≠ 0)) => ?_)
      show wW (zK sc) zM24 77 [(3, .inl 0), (2, .inl 0), (0, .inr (.inr (.inl (some (0, 0))))), (1, .inl x)] [] _ _ _
      have zc31 : zfr (fun k i j => k = 1 ∧ i < 2 ∧ j = 1) m0 m24 := zfr_tr (zfr_rf) hEm24 (fun k i j z => by have z9 : (k = 1 ∧ i = 0 ∧ j = 1) := z; exact (show k = 1 ∧ i < 2 ∧ j = 1 from by omega))
      have zc32 : zfr (fun k i j => k = 1 ∧ i < 2 ∧ j = 1) m0 m28 := zfr_tr (zc31) hEm28 (fun k i j z => by have z9 : (k = 1 ∧ i = 1 ∧ j = 1) := z; exact (show k = 1 ∧ i < 2 ∧ j = 1 from by omega))
      exact ww_thr rfl rfl (by decide) rfl (Nat.le_of_ble_eq_true rfl) rfl (by omega) ⟨zB_mono hGm28 (by omega), hFm28, Or.inr ⟨_, rfl, rfl, ⟨by omega, by omega, Or.inl ⟨rfl, Or.inr (Or.inr (hr19.elim (fun z => absurd z.1 (by omega)) (fun z w => z.2 (by have w9 := zNx_0.mpr w; rw [hr17.1]; exact w9)))), zc32⟩⟩⟩⟩
    · show wW (zK sc) zM24 25 [(0, .inr (.inr (.inl (some (0, 0))))), (1, .inl x)] [] _ _ _
      refine ww_go 4 (pc' := 32) (L' := [(2, .inl 1), (0, .inr (.inr (.inl (some (0, 0))))), (1, .inl x)]) (st' := [.inl 1]) (m' := m0) (o := none) rfl trivial ?_
      refine ww_if (t := 57) rfl rfl (by decide) (fun (h33 : (1 : Int) = 0) => absurd h33 (by decide)) (fun (h33 : ¬ ((1 : Int) = 0)) => ?_)
      show wW (zK sc) zM24 35 [(2, .inl 1), (0, .inr (.inr (.inl (some (0, 0))))), (1, .inl x)] [] _ _ _
      refine ww_go 3 (pc' := 40) (L' := [(2, .inl 1), (0, .inr (.inr (.inl (some (0, 0))))), (1, .inl x)]) (st' := [.inl x, .inr (.inr (.inl (some (3, 0))))]) (m' := m0) (o := some ((0 < 1))) rfl (show (0 < 1) from by omega) ?_
      refine ww_call (vs := [.inr (.inr (.inl (some (3, 0)))), .inl x]) (r := []) (p := 0 < 1) rfl rfl rfl rfl (show 0 < 1 from by omega) (zs130 (c := c) (by omega) x hG (by omega)) ?_
      rintro _ _ _ ⟨r34, rfl, rfl, rfl, hr35⟩
      show wW (zK sc) zM24 43 [(2, .inl 1), (0, .inr (.inr (.inl (some (0, 0))))), (1, .inl x)] [.inr (.inr (.inl (some (6, r34))))] _ _ _
      refine ww_go 4 (pc' := 51) (L' := [(2, .inl 1), (0, .inr (.inr (.inl (some (0, 0))))), (1, .inl x)]) (st' := [.inr (.inr (.inl (some (1, 1)))), .inr (.inr (.inl (some (1, 0)))), .inr (.inr (.inl (some (6, r34))))]) (m' := m0) (o := some ((0 < 1) ∧ (0 < 1))) rfl (show (0 < 1) ∧ (0 < 1) from by omega) ?_
      refine ww_call (vs := [.inr (.inr (.inl (some (6, r34)))), .inr (.inr (.inl (some (1, 0)))), .inr (.inr (.inl (some (1, 1))))]) (r := []) (p := r34 < 2) rfl rfl rfl rfl (show r34 < 2 from by omega) (zs61 (c := c) (by omega) r34 0 1 hG (by omega) hD) ?_
      rintro _ _ m38 ⟨r36, rfl, rfl, hGm38, hEm38, hr37⟩
      have hFm38 : zfr (fun k i j => (k = 1 ∧ (i < 2 ∨ (35 + 6 * x.toNat ≤ i ∧ i < 41 + 6 * x.toNat ∨ 47 + 6 * x.toNat ≤ i ∧ i < 53 + 6 * x.toNat) ∧ 0 ≤ x ∧ x ≤ 1) ∧ j = 1) ∨ (k = 2 ∧ (35 + 6 * x.toNat ≤ i ∧ i < 41 + 6 * x.toNat ∨ 47 + 6 * x.toNat ≤ i ∧ i < 53 + 6 * x.toNat) ∧ 0 ≤ x ∧ x ≤ 1) ∨ (k = 6 ∧ i = x.toNat ∧ j = 3 ∧ 0 ≤ x ∧ x ≤ 1) ∨ (k = 7 ∧ i = x.toNat ∧ 0 ≤ x ∧ x ≤ 1) ∨ (k = 8 ∧ i = x.toNat ∧ 0 ≤ x ∧ x ≤ 1)) m0 m38 := zfr_tr hF hEm38 (fun k i j z => Or.elim z (fun z => (show (k = 1 ∧ (i < 2 ∨ (35 + 6 * x.toNat ≤ i ∧ i < 41 + 6 * x.toNat ∨ 47 + 6 * x.toNat ≤ i ∧ i < 53 + 6 * x.toNat) ∧ 0 ≤ x ∧ x ≤ 1) ∧ j = 1) ∨ (k = 2 ∧ (35 + 6 * x.toNat ≤ i ∧ i < 41 + 6 * x.toNat ∨ 47 + 6 * x.toNat ≤ i ∧ i < 53 + 6 * x.toNat) ∧ 0 ≤ x ∧ x ≤ 1) ∨ (k = 6 ∧ i = x.toNat ∧ j = 3 ∧ 0 ≤ x ∧ x ≤ 1) ∨ (k = 7 ∧ i = x.toNat ∧ 0 ≤ x ∧ x ≤ 1) ∨ (k = 8 ∧ i = x.toNat ∧ 0 ≤ x ∧ x ≤ 1) from Or.inr (Or.inr (Or.inr (Or.inl ((show k = 7 ∧ i = x.toNat ∧ 0 ≤ x ∧ x ≤ 1 from by omega))))))) (fun z => Or.elim z (fun z => (show (k = 1 ∧ (i < 2 ∨ (35 + 6 * x.toNat ≤ i ∧ i < 41 + 6 * x.toNat ∨ 47 + 6 * x.toNat ≤ i ∧ i < 53 + 6 * x.toNat) ∧ 0 ≤ x ∧ x ≤ 1) ∧ j = 1) ∨ (k = 2 ∧ (35 + 6 * x.toNat ≤ i ∧ i < 41 + 6 * x.toNat ∨ 47 + 6 * x.toNat ≤ i ∧ i < 53 + 6 * x.toNat) ∧ 0 ≤ x ∧ x ≤ 1) ∨ (k = 6 ∧ i = x.toNat ∧ j = 3 ∧ 0 ≤ x ∧ x ≤ 1) ∨ (k = 7 ∧ i = x.toNat ∧ 0 ≤ x ∧ x ≤ 1) ∨ (k = 8 ∧ i = x.toNat ∧ 0 ≤ x ∧ x ≤ 1) from Or.inr (Or.inr (Or.inr (Or.inr ((show k = 8 ∧ i = x.toNat ∧ 0 ≤ x ∧ x ≤ 1 from by omega))))))) (fun z => Or.elim z (fun z => (show (k = 1 ∧ (i < 2 ∨ (35 + 6 * x.toNat ≤ i ∧ i < 41 + 6 * x.toNat ∨ 47 + 6 * x.toNat ≤ i ∧ i < 53 + 6 * x.toNat) ∧ 0 ≤ x ∧ x ≤ 1) ∧ j = 1) ∨ (k = 2 ∧ (35 + 6 * x.toNat ≤ i ∧ i < 41 + 6 * x.toNat ∨ 47 + 6 * x.toNat ≤ i ∧ i < 53 + 6 * x.toNat) ∧ 0 ≤ x ∧ x ≤ 1) ∨ (k = 6 ∧ i = x.toNat ∧ j = 3 ∧ 0 ≤ x ∧ x ≤ 1) ∨ (k = 7 ∧ i = x.toNat ∧ 0 ≤ x ∧ x ≤ 1) ∨ (k = 8 ∧ i = x.toNat ∧ 0 ≤ x ∧ x ≤ 1) from Or.inr (Or.inr (Or.inl ((show k = 6 ∧ i = x.toNat ∧ j = 3 ∧ 0 ≤ x ∧ x ≤ 1 from by omega)))))) (fun z => Or.elim z (fun z => (show (k = 1 ∧ (i < 2 ∨ (35 + 6 * x.toNat ≤ i ∧ i < 41 + 6 * x.toNat ∨ 47 + 6 * x.toNat ≤ i ∧ i < 53 + 6 * x.toNat) ∧ 0 ≤ x ∧ x ≤ 1) ∧ j = 1) ∨ (k = 2 ∧ (35 + 6 * x.toNat ≤ i ∧ i < 41 + 6 * x.toNat ∨ 47 + 6 * x.toNat ≤ i ∧ i < 53 + 6 * x.toNat) ∧ 0 ≤ x ∧ x ≤ 1) ∨ (k = 6 ∧ i = x.toNat ∧ j = 3 ∧ 0 ≤ x ∧ x ≤ 1) ∨ (k = 7 ∧ i = x.toNat ∧ 0 ≤ x ∧ x ≤ 1) ∨ (k = 8 ∧ i = x.toNat ∧ 0 ≤ x ∧ x ≤ 1) from Or.inl ((show k = 1 ∧ (i < 2 ∨ (35 + 6 * x.toNat ≤ i ∧ i < 41 + 6 * x.toNat ∨ 47 + 6 * x.toNat ≤ i ∧ i < 53 + 6 * x.toNat) ∧ 0 ≤ x ∧ x ≤ 1) ∧ j = 1 from by omega)))) (fun z => (show (k = 1 ∧ (i < 2 ∨ (35 + 6 * x.toNat ≤ i ∧ i < 41 + 6 * x.toNat ∨ 47 + 6 * x.toNat ≤ i ∧ i < 53 + 6 * x.toNat) ∧ 0 ≤ x ∧ x ≤ 1) ∧ j = 1) ∨ (k = 2 ∧ (35 + 6 * x.toNat ≤ i ∧ i < 41 + 6 * x.toNat ∨ 47 + 6 * x.toNat ≤ i ∧ i < 53 + 6 * x.toNat) ∧ 0 ≤ x ∧ x ≤ 1) ∨ (k = 6 ∧ i = x.toNat ∧ j = 3 ∧ 0 ≤ x ∧ x ≤ 1) ∨ (k = 7 ∧ i = x.toNat ∧ 0 ≤ x ∧ x ≤ 1) ∨ (k = 8 ∧ i = x.toNat ∧ 0 ≤ x ∧ x ≤ 1) from Or.inr (Or.inl ((show k = 2 ∧ (35 + 6 * x.toNat ≤ i ∧ i < 41 + 6 * x.toNat ∨ 47 + 6 * x.toNat ≤ i ∧ i < 53 + 6 * x.toNat) ∧ 0 ≤ x ∧ x ≤ 1 from by omega)))))))))
      have w39 : m38.1 1 0 1 = m0.1 1 0 1 := (hEm38 1 0 1 (show ¬ ((1 = 7 ∧ 0 = r34) ∨ (1 = 8 ∧ 0 = r34) ∨ (1 = 6 ∧ 0 = r34 ∧ 1 = 3) ∨ (1 = 1 ∧ (35 + 6 * r34 ≤ 0 ∧ 0 < 41 + 6 * r34 ∨ 47 + 6 * r34 ≤ 0 ∧ 0 < 53 + 6 * r34) ∧ 1 = 1) ∨ (1 = 2 ∧ (35 + 6 * r34 ≤ 0 ∧ 0 < 41 + 6 * r34 ∨ 47 + 6 * r34 ≤ 0 ∧ 0 < 53 + 6 * r34))) from by omega)).1
      have w40 : m38.1 1 1 1 = m0.1 1 1 1 := (hEm38 1 1 1 (show ¬ ((1 = 7 ∧ 1 = r34) ∨ (1 = 8 ∧ 1 = r34) ∨ (1 = 6 ∧ 1 = r34 ∧ 1 = 3) ∨ (1 = 1 ∧ (35 + 6 * r34 ≤ 1 ∧ 1 < 41 + 6 * r34 ∨ 47 + 6 * r34 ≤ 1 ∧ 1 < 53 + 6 * r34) ∧ 1 = 1) ∨ (1 = 2 ∧ (35 + 6 * r34 ≤ 1 ∧ 1 < 41 + 6 * r34 ∨ 47 + 6 * r34 ≤ 1 ∧ 1 < 53 + 6 * r34))) from by omega)).1
      show wW (zK sc) zM24 54 [(2, .inl 1), (0, .inr (.inr (.inl (some (0, 0))))), (1, .inl x)] [.inl r36] _ _ _
      refine ww_go 4 (pc' := 63) (L' := [(3, .inl r36), (2, .inl 1), (0, .inr (.inr (.inl (some (0, 0))))), (1, .inl x)]) (st' := [.inr (.inr (.inl (some (1, 0))))]) (m' := m38) (o := some ((0 < 1))) rfl (show (0 < 1) from by omega) ?_
      refine ww_call (vs := [.inr (.inr (.inl (some (1, 0))))]) (r := []) (p := 0 < 171) rfl rfl rfl rfl (show 0 < 171 from by omega) (zs29 (c := c) (by omega) 0 hGm38 (by omega)) ?_
      rintro _ _ m43 ⟨rfl, rfl, hGm43, hEm43, hr42⟩
      have hFm43 : zfr (fun k i j => (k = 1 ∧ (i < 2 ∨ (35 + 6 * x.toNat ≤ i ∧ i < 41 + 6 * x.toNat ∨ 47 + 6 * x.toNat ≤ i ∧ i < 53 + 6 * x.toNat) ∧ 0 ≤ x ∧ x ≤ 1) ∧ j = 1) ∨ (k = 2 ∧ (35 + 6 * x.toNat ≤ i ∧ i < 41 + 6 * x.toNat ∨ 47 + 6 * x.toNat ≤ i ∧ i < 53 + 6 * x.toNat) ∧ 0 ≤ x ∧ x ≤ 1) ∨ (k = 6 ∧ i = x.toNat ∧ j = 3 ∧ 0 ≤ x ∧ x ≤ 1) ∨ (k = 7 ∧ i = x.toNat ∧ 0 ≤ x ∧ x ≤ 1) ∨ (k = 8 ∧ i = x.toNat ∧ 0 ≤ x ∧ x ≤ 1)) m0 m43 := zfr_tr hFm38 hEm43 (fun k i j z => (show (k = 1 ∧ (i < 2 ∨ (35 + 6 * x.toNat ≤ i ∧ i < 41 + 6 * x.toNat ∨ 47 + 6 * x.toNat ≤ i ∧ i < 53 + 6 * x.toNat) ∧ 0 ≤ x ∧ x ≤ 1) ∧ j = 1) ∨ (k = 2 ∧ (35 + 6 * x.toNat ≤ i ∧ i < 41 + 6 * x.toNat ∨ 47 + 6 * x.toNat ≤ i ∧ i < 53 + 6 * x.toNat) ∧ 0 ≤ x ∧ x ≤ 1) ∨ (k = 6 ∧ i = x.toNat ∧ j = 3 ∧ 0 ≤ x ∧ x ≤ 1) ∨ (k = 7 ∧ i = x.toNat ∧ 0 ≤ x ∧ x ≤ 1) ∨ (k = 8 ∧ i = x.toNat ∧ 0 ≤ x ∧ x ≤ 1) from Or.inl ((show k = 1 ∧ (i < 2 ∨ (35 + 6 * x.toNat ≤ i ∧ i < 41 + 6 * x.toNat ∨ 47 + 6 * x.toNat ≤ i ∧ i < 53 + 6 * x.toNat) ∧ 0 ≤ x ∧ x ≤ 1) ∧ j = 1 from by omega))))
      have w44 : m43.1 1 1 1 = m38.1 1 1 1 := (hEm43 1 1 1 (show ¬ ((1 = 1 ∧ 1 = 0 ∧ 1 = 1)) from by omega)).1
      show wW (zK sc) zM24 66 [(3, .inl r36), (2, .inl 1), (0, .inr (.inr (.inl (some (0, 0))))), (1, .inl x)] [] _ _ _
      refine ww_go 2 (pc' := 70) (L' := [(3, .inl r36), (2, .inl 1), (0, .inr (.inr (.inl (some (0, 0))))), (1, .inl x)]) (st' := [.inr (.inr (.inl (some (1, 1))))]) (m' := m43) (o := some ((0 < 1))) rfl (show (0 < 1) from by omega) ?_
      refine ww_call (vs := [.inr (.inr (.inl (some (1, 1))))]) (r := []) (p := 1 < 171) rfl rfl rfl rfl (show 1 < 171 from by omega) (zs29 (c := c) (by omega) 1 hGm43 (by omega)) ?_
      rintro _ _ m47 ⟨rfl, rfl, hGm47, hEm47, hr46⟩
      have hFm47 : zfr (fun k i j => (k = 1 ∧ (i < 2 ∨ (35 + 6 * x.toNat ≤ i ∧ i < 41 + 6 * x.toNat ∨ 47 + 6 * x.toNat ≤ i ∧ i < 53 + 6 * x.toNat) ∧ 0 ≤ x ∧ x ≤ 1) ∧ j = 1) ∨ (k = 2 ∧ (35 + 6 * x.toNat ≤ i ∧ i < 41 + 6 * x.toNat ∨ 47 + 6 * x.toNat ≤ i ∧ i < 53 + 6 * x.toNat) ∧ 0 ≤ x ∧ x ≤ 1) ∨ (k = 6 ∧ i = x.toNat ∧ j = 3 ∧ 0 ≤ x ∧ x ≤ 1) ∨ (k = 7 ∧ i = x.toNat ∧ 0 ≤ x ∧ x ≤ 1) ∨ (k = 8 ∧ i = x.toNat ∧ 0 ≤ x ∧ x ≤ 1)) m0 m47 := zfr_tr hFm43 hEm47 (fun k i j z => (show (k = 1 ∧ (i < 2 ∨ (35 + 6 * x.toNat ≤ i ∧ i < 41 + 6 * x.toNat ∨ 47 + 6 * x.toNat ≤ i ∧ i < 53 + 6 * x.toNat) ∧ 0 ≤ x ∧ x ≤ 1) ∧ j = 1) ∨ (k = 2 ∧ (35 + 6 * x.toNat ≤ i ∧ i < 41 + 6 * x.toNat ∨ 47 + 6 * x.toNat ≤ i ∧ i < 53 + 6 * x.toNat) ∧ 0 ≤ x ∧ x ≤ 1) ∨ (k = 6 ∧ i = x.toNat ∧ j = 3 ∧ 0 ≤ x ∧ x ≤ 1) ∨ (k = 7 ∧ i = x.toNat ∧ 0 ≤ x ∧ x ≤ 1) ∨ (k = 8 ∧ i = x.toNat ∧ 0 ≤ x ∧ x ≤ 1) from Or.inl ((show k = 1 ∧ (i < 2 ∨ (35 + 6 * x.toNat ≤ i ∧ i < 41 + 6 * x.toNat ∨ 47 + 6 * x.toNat ≤ i ∧ i < 53 + 6 * x.toNat) ∧ 0 ≤ x ∧ x ≤ 1) ∧ j = 1 from by omega))))
      have w48 : m47.1 1 0 1 = m43.1 1 0 1 := (hEm47 1 0 1 (show ¬ ((1 = 1 ∧ 0 = 1 ∧ 1 = 1)) from by omega)).1
      show wW (zK sc) zM24 73 [(3, .inl r36), (2, .inl 1), (0, .inr (.inr (.inl (some (0, 0))))), (1, .inl x)] [] _ _ _
      refine ww_go 1 (pc' := 74) (L' := [(3, .inl r36), (2, .inl 1), (0, .inr (.inr (.inl (some (0, 0))))), (1, .inl x)]) (st' := [.inl 1]) (m' := m47) (o := none) rfl trivial ?_
      refine ww_if (t := 87) rfl rfl (by decide) (fun (h49 : (1 : Int) ≠ 0) => ?_) (fun (h49 : ¬ ((1 : Int) ≠ 0)) => absurd (show (1 : Int) ≠ 0 from by decide) h49)
      show wW (zK sc) zM24 87 [(3, .inl r36), (2, .inl 1), (0, .inr (.inr (.inl (some (0, 0))))), (1, .inl x)] [] _ _ _
      refine ww_go 1 (pc' := 88) (L' := [(3, .inl r36), (2, .inl 1), (0, .inr (.inr (.inl (some (0, 0))))), (1, .inl x)]) (st' := [.inl r36]) (m' := m47) (o := none) rfl trivial ?_
      refine ww_if (t := 101) rfl rfl (by omega) (fun (h50 : r36 ≠ 0) => ?_) (fun (h50 : ¬ (r36 ≠ 0)) => ?_)
      · show wW (zK sc) zM24 101 [(3, .inl r36), (2, .inl 1), (0, .inr (.inr (.inl (some (0, 0))))), (1, .inl x)] [] _ _ _
        refine ww_go 1 (pc' := 102) (L' := [(3, .inl r36), (2, .inl 1), (0, .inr (.inr (.inl (some (0, 0))))), (1, .inl x)]) (st' := [.inl r36]) (m' := m47) (o := none) rfl trivial ?_
        have zc51 : zfr (fun k i j => k = 1 ∧ i < 2 ∧ j = 1) m38 m43 := zfr_tr (zfr_rf) hEm43 (fun k i j z => by have z9 : (k = 1 ∧ i = 0 ∧ j = 1) := z; exact (show k = 1 ∧ i < 2 ∧ j = 1 from by omega))
        have zc52 : zfr (fun k i j => k = 1 ∧ i < 2 ∧ j = 1) m38 m47 := zfr_tr (zc51) hEm47 (fun k i j z => by have z9 : (k = 1 ∧ i = 1 ∧ j = 1) := z; exact (show k = 1 ∧ i < 2 ∧ j = 1 from by omega))
        have zcl := zCl_F hGm38 zc52 (fun k i j z => z)
        have zpp := hr37.2.2
        rw [hr35] at zpp
        have zp1 := zPut_cg (F'' := zCF m47 x.toNat) zpp.1 (fun q hq => zcl.1 x.toNat (by omega) q hq) (by omega)
        rw [← zcl.2.2 x.toNat 3] at zp1
        exact ww_rI rfl rfl ⟨zB_mono hGm47 (by omega), hFm47, Or.inl ⟨_, rfl, rfl, ⟨by omega, by omega, by omega, by omega, (hr19.elim (fun z => zNx_0.mp (by have z9 := z.2; rw [hr17.1] at z9; exact z9)) (fun z => absurd z.1 (by omega))), zp1, by omega, zcl.2.1 zpp.2⟩⟩⟩
      · show wW (zK sc) zM24 91 [(3, .inl r36), (2, .inl 1), (0, .inr (.inr (.inl (some (0, 0))))), (1, .inl x)] [] _ _ _
        have zc53 : zfr (fun k i j => k = 1 ∧ i < 2 ∧ j = 1) m38 m43 := zfr_tr (zfr_rf) hEm43 (fun k i j z => by have z9 : (k = 1 ∧ i = 0 ∧ j = 1) := z; exact (show k = 1 ∧ i < 2 ∧ j = 1 from by omega))
        have zc54 : zfr (fun k i j => k = 1 ∧ i < 2 ∧ j = 1) m38 m47 := zfr_tr (zc53) hEm47 (fun k i j z => by have z9 : (k = 1 ∧ i = 1 ∧ j = 1) := z; exact (show k = 1 ∧ i < 2 ∧ j = 1 from by omega))
        have zcl := zCl_F hGm38 zc54 (fun k i j z => z)
        have zpp := hr37.2.2
        rw [hr35] at zpp
        have zp1 := zPut_cg (F'' := zCF m47 x.toNat) zpp.1 (fun q hq => zcl.1 x.toNat (by omega) q hq) (by omega)
        rw [← zcl.2.2 x.toNat 3] at zp1
        rw [show r36 = 0 from by omega] at zp1
        exact ww_thr rfl rfl (by decide) rfl (Nat.le_of_ble_eq_true rfl) rfl (by omega) ⟨zB_mono hGm47 (by omega), hFm47, Or.inr ⟨_, rfl, rfl, ⟨by omega, by omega, Or.inr ⟨rfl, by omega, by omega, (hr19.elim (fun z => zNx_0.mp (by have z9 := z.2; rw [hr17.1] at z9; exact z9)) (fun z => absurd z.1 (by omega))), zp1, zcl.2.1 zpp.2⟩⟩⟩⟩
set_option maxRecDepth 8000 in
/-- Dl.remove -/
theorem zs18 {sc : xSc} {n : Nat × Nat} {m0 : wm} {c : Int} (hn : n.1 < 2300) (hc : 0 ≤ c ∧ c ≤ 1000000) (x : Int) (hG : zB c m0) (h0 : -2147483648 ≤ x ∧ x ≤ 2147483647) (hD : zDi m0) : wX (zK sc) 18 [.inr (.inr (.inl (some (0, 0)))), .inl x] n m0 (fun o n1 m1 => zB c m1 ∧ zfr (fun k i j => (k = 1 ∧ i = 0 ∧ j = 1) ∨ (k = 6 ∧ i = x.toNat ∧ j = 3 ∧ 0 ≤ x ∧ x ≤ 1) ∨ (k = 7 ∧ i = x.toNat ∧ 0 ≤ x ∧ x ≤ 1) ∨ (k = 8 ∧ i = x.toNat ∧ 0 ≤ x ∧ x ≤ 1)) m0 m1 ∧ ((∃ r : Int, o = .inl (some (.inl r)) ∧ n = n1 ∧ (0 ≤ r ∧ r ≤ 1 ∧ m1.1 1 0 1 = 0 ∧ m1.1 1 1 1 = m0.1 1 1 1 ∧ 0 ≤ x ∧ x ≤ 1 ∧ zTake (zCF m0 x.toNat) (m0.1 6 x.toNat 3) (zBR m0 0) (zCF m1 x.toNat) (m1.1 6 x.toNat 3) r ∧ zDi m1)) ∨ (∃ q : Nat, o = .inr q ∧ (n.1 + 1, n.2 + 6) = n1 ∧ (q = 0 ∧ (x < 0 ∨ 1 < x) ∧ m1.1 1 0 1 = 0 ∧ m1.1 1 1 1 = m0.1 1 1 1 ∧ zfr (fun k i j => k = 1 ∧ i < 2 ∧ j = 1) m0 m1)))) := by
  refine wX_of (N := zM18) rfl (Nat.le_of_ble_eq_true rfl) ?_
  show wW (zK sc) zM18 0 [(0, .inr (.inr (.inl (some (0, 0))))), (1, .inl x)] [] n m0 _
  have hF : zfr (fun k i j => (k = 1 ∧ i = 0 ∧ j = 1) ∨ (k = 6 ∧ i = x.toNat ∧ j = 3 ∧ 0 ≤ x ∧ x ≤ 1) ∨ (k = 7 ∧ i = x.toNat ∧ 0 ≤ x ∧ x ≤ 1) ∨ (k = 8 ∧ i = x.toNat ∧ 0 ≤ x ∧ x ≤ 1)) m0 m0 := zfr_rf
  have q1 : 0 ≤ m0.1 1 0 1 ∧ m0.1 1 0 1 ≤ 6 := hG.1 1 _ rfl 0 1
  have q2 : 0 ≤ m0.1 1 1 1 ∧ m0.1 1 1 1 ≤ 96 := hG.1 1 _ rfl 1 1
  have l0 : zlim 0 = 6 := rfl
  have l1 : zlim 1 = 96 := rfl
  have b63 : 0 ≤ m0.1 6 x.toNat 3 ∧ m0.1 6 x.toNat 3 ≤ 6 := hG.1 6 _ rfl _ _
  refine ww_go 1 (pc' := 1) (L' := [(0, .inr (.inr (.inl (some (0, 0))))), (1, .inl x)]) (st' := [.inl x]) (m' := m0) (o := none) rfl trivial ?_
  refine ww_call (vs := [.inl x]) (r := []) (p := True) rfl rfl rfl rfl trivial (zs11 x (by omega)) ?_
  rintro _ _ _ ⟨r1, rfl, rfl, rfl, hr2⟩
  show wW (zK sc) zM18 4 [(0, .inr (.inr (.inl (some (0, 0))))), (1, .inl x)] [.inl r1] _ _ _
  refine ww_go 2 (pc' := 6) (L' := [(2, .inl r1), (0, .inr (.inr (.inl (some (0, 0))))), (1, .inl x)]) (st' := [.inl r1]) (m' := m0) (o := none) rfl trivial ?_
  refine ww_if (t := 31) rfl rfl (by omega) (fun (h3 : r1 = 0) => ?_) (fun (h3 : ¬ (r1 = 0)) => ?_)
  · show wW (zK sc) zM18 31 [(2, .inl r1), (0, .inr (.inr (.inl (some (0, 0))))), (1, .inl x)] [] _ _ _
    refine ww_go 4 (pc' := 37) (L' := [(3, .inl 0), (2, .inl r1), (0, .inr (.inr (.inl (some (0, 0))))), (1, .inl x)]) (st' := [.inr (.inr (.inl (some (1, 0))))]) (m' := m0) (o := some ((0 < 1))) rfl (show (0 < 1) from by omega) ?_
    refine ww_call (vs := [.inr (.inr (.inl (some (1, 0))))]) (r := []) (p := 0 < 171) rfl rfl rfl rfl (show 0 < 171 from by omega) (zs29 (c := c) (by omega) 0 hG (by omega)) ?_
    rintro _ _ m6 ⟨rfl, rfl, hGm6, hEm6, hr5⟩
    have hFm6 : zfr (fun k i j => (k = 1 ∧ i = 0 ∧ j = 1) ∨ (k = 6 ∧ i = x.toNat ∧ j = 3 ∧ 0 ≤ x ∧ x ≤ 1) ∨ (k = 7 ∧ i = x.toNat ∧ 0 ≤ x ∧ x ≤ 1) ∨ (k = 8 ∧ i = x.toNat ∧ 0 ≤ x ∧ x ≤ 1)) m0 m6 := zfr_tr hF hEm6 (fun k i j z => Or.inl z)
    have w7 : m6.1 1 1 1 = m0.1 1 1 1 := (hEm6 1 1 1 (show ¬ ((1 = 1 ∧ 1 = 0 ∧ 1 = 1)) from by omega)).1
    show wW (zK sc) zM18 40 [(3, .inl 0), (2, .inl r1), (0, .inr (.inr (.inl (some (0, 0))))), (1, .inl x)] [] _ _ _
    refine ww_go 1 (pc' := 41) (L' := [(3, .inl 0), (2, .inl r1), (0, .inr (.inr (.inl (some (0, 0))))), (1, .inl x)]) (st' := [.inl r1]) (m' := m6) (o := none) rfl trivial ?_
    refine ww_if (t := 54) rfl rfl (by omega) (fun (h8 : r1 ≠ 0) => absurd h8 (by omega)) (fun (h8 : ¬ (r1 ≠ 0)) => ?_)
    show wW (zK sc) zM18 44 [(3, .inl 0), (2, .inl r1), (0, .inr (.inr (.inl (some (0, 0))))), (1, .inl x)] [] _ _ _
    have zc9 : zfr (fun k i j => k = 1 ∧ i < 2 ∧ j = 1) m0 m6 := zfr_tr (zfr_rf) hEm6 (fun k i j z => by have z9 : (k = 1 ∧ i = 0 ∧ j = 1) := z; exact (show k = 1 ∧ i < 2 ∧ j = 1 from by omega))
    exact ww_thr rfl rfl (by decide) rfl (Nat.le_of_ble_eq_true rfl) rfl (by omega) ⟨zB_mono hGm6 (by omega), hFm6, Or.inr ⟨_, rfl, rfl, ⟨rfl, by omega, by omega, by omega, zc9⟩⟩⟩
  · show wW (zK sc) zM18 9 [(2, .inl r1), (0, .inr (.inr (.inl (some (0, 0))))), (1, .inl x)] [] _ _ _
    refine ww_go 3 (pc' := 14) (L' := [(2, .inl r1), (0, .inr (.inr (.inl (some (0, 0))))), (1, .inl x)]) (st' := [.inl x, .inr (.inr (.inl (some (3, 0))))]) (m' := m0) (o := some ((0 < 1))) rfl (show (0 < 1) from by omega) ?_
    refine ww_call (vs := [.inr (.inr (.inl (some (3, 0)))), .inl x]) (r := []) (p := 0 < 1) rfl rfl rfl rfl (show 0 < 1 from by omega) (zs130 (c := c) (by omega) x hG (by omega)) ?_
    rintro _ _ _ ⟨r10, rfl, rfl, rfl, hr11⟩
    show wW (zK sc) zM18 17 [(2, .inl r1), (0, .inr (.inr (.inl (some (0, 0))))), (1, .inl x)] [.inr (.inr (.inl (some (6, r10))))] _ _ _
    refine ww_go 2 (pc' := 21) (L' := [(2, .inl r1), (0, .inr (.inr (.inl (some (0, 0))))), (1, .inl x)]) (st' := [.inr (.inr (.inl (some (1, 0)))), .inr (.inr (.inl (some (6, r10))))]) (m' := m0) (o := some ((0 < 1))) rfl (show (0 < 1) from by omega) ?_
    refine ww_call (vs := [.inr (.inr (.inl (some (6, r10)))), .inr (.inr (.inl (some (1, 0))))]) (r := []) (p := r10 < 2) rfl rfl rfl rfl (show r10 < 2 from by omega) (zs62 (c := c) (by omega) r10 0 hG (by omega) hD) ?_
    rintro _ _ m14 ⟨r12, rfl, rfl, hGm14, hEm14, hr13⟩
    have hFm14 : zfr (fun k i j => (k = 1 ∧ i = 0 ∧ j = 1) ∨ (k = 6 ∧ i = x.toNat ∧ j = 3 ∧ 0 ≤ x ∧ x ≤ 1) ∨ (k = 7 ∧ i = x.toNat ∧ 0 ≤ x ∧ x ≤ 1) ∨ (k = 8 ∧ i = x.toNat ∧ 0 ≤ x ∧ x ≤ 1)) m0 m14 := zfr_tr hF hEm14 (fun k i j z => Or.elim z (fun z => (show (k = 1 ∧ i = 0 ∧ j = 1) ∨ (k = 6 ∧ i = x.toNat ∧ j = 3 ∧ 0 ≤ x ∧ x ≤ 1) ∨ (k = 7 ∧ i = x.toNat ∧ 0 ≤ x ∧ x ≤ 1) ∨ (k = 8 ∧ i = x.toNat ∧ 0 ≤ x ∧ x ≤ 1) from Or.inr (Or.inr (Or.inl ((show k = 7 ∧ i = x.toNat ∧ 0 ≤ x ∧ x ≤ 1 from by omega)))))) (fun z => Or.elim z (fun z => (show (k = 1 ∧ i = 0 ∧ j = 1) ∨ (k = 6 ∧ i = x.toNat ∧ j = 3 ∧ 0 ≤ x ∧ x ≤ 1) ∨ (k = 7 ∧ i = x.toNat ∧ 0 ≤ x ∧ x ≤ 1) ∨ (k = 8 ∧ i = x.toNat ∧ 0 ≤ x ∧ x ≤ 1) from Or.inr (Or.inr (Or.inr ((show k = 8 ∧ i = x.toNat ∧ 0 ≤ x ∧ x ≤ 1 from by omega)))))) (fun z => (show (k = 1 ∧ i = 0 ∧ j = 1) ∨ (k = 6 ∧ i = x.toNat ∧ j = 3 ∧ 0 ≤ x ∧ x ≤ 1) ∨ (k = 7 ∧ i = x.toNat ∧ 0 ≤ x ∧ x ≤ 1) ∨ (k = 8 ∧ i = x.toNat ∧ 0 ≤ x ∧ x ≤ 1) from Or.inr (Or.inl ((show k = 6 ∧ i = x.toNat ∧ j = 3 ∧ 0 ≤ x ∧ x ≤ 1 from by omega)))))))
    have w15 : m14.1 1 0 1 = m0.1 1 0 1 := (hEm14 1 0 1 (show ¬ ((1 = 7 ∧ 0 = r10) ∨ (1 = 8 ∧ 0 = r10) ∨ (1 = 6 ∧ 0 = r10 ∧ 1 = 3)) from by omega)).1
    have w16 : m14.1 1 1 1 = m0.1 1 1 1 := (hEm14 1 1 1 (show ¬ ((1 = 7 ∧ 1 = r10) ∨ (1 = 8 ∧ 1 = r10) ∨ (1 = 6 ∧ 1 = r10 ∧ 1 = 3)) from by omega)).1
    show wW (zK sc) zM18 24 [(2, .inl r1), (0, .inr (.inr (.inl (some (0, 0))))), (1, .inl x)] [.inl r12] _ _ _
    refine ww_if (t := 31) rfl rfl (by omega) (fun (h17 : r12 = 0) => ?_) (fun (h17 : ¬ (r12 = 0)) => ?_)
    · show wW (zK sc) zM18 31 [(2, .inl r1), (0, .inr (.inr (.inl (some (0, 0))))), (1, .inl x)] [] _ _ _
      refine ww_go 4 (pc' := 37) (L' := [(3, .inl 0), (2, .inl r1), (0, .inr (.inr (.inl (some (0, 0))))), (1, .inl x)]) (st' := [.inr (.inr (.inl (some (1, 0))))]) (m' := m14) (o := some ((0 < 1))) rfl (show (0 < 1) from by omega) ?_
      refine ww_call (vs := [.inr (.inr (.inl (some (1, 0))))]) (r := []) (p := 0 < 171) rfl rfl rfl rfl (show 0 < 171 from by omega) (zs29 (c := c) (by omega) 0 hGm14 (by omega)) ?_
      rintro _ _ m20 ⟨rfl, rfl, hGm20, hEm20, hr19⟩
      have hFm20 : zfr (fun k i j => (k = 1 ∧ i = 0 ∧ j = 1) ∨ (k = 6 ∧ i = x.toNat ∧ j = 3 ∧ 0 ≤ x ∧ x ≤ 1) ∨ (k = 7 ∧ i = x.toNat ∧ 0 ≤ x ∧ x ≤ 1) ∨ (k = 8 ∧ i = x.toNat ∧ 0 ≤ x ∧ x ≤ 1)) m0 m20 := zfr_tr hFm14 hEm20 (fun k i j z => Or.inl z)
      have w21 : m20.1 1 1 1 = m14.1 1 1 1 := (hEm20 1 1 1 (show ¬ ((1 = 1 ∧ 1 = 0 ∧ 1 = 1)) from by omega)).1
      show wW (zK sc) zM18 40 [(3, .inl 0), (2, .inl r1), (0, .inr (.inr (.inl (some (0, 0))))), (1, .inl x)] [] _ _ _
      refine ww_go 1 (pc' := 41) (L' := [(3, .inl 0), (2, .inl r1), (0, .inr (.inr (.inl (some (0, 0))))), (1, .inl x)]) (st' := [.inl r1]) (m' := m20) (o := none) rfl trivial ?_
      refine ww_if (t := 54) rfl rfl (by omega) (fun (h22 : r1 ≠ 0) => ?_) (fun (h22 : ¬ (r1 ≠ 0)) => absurd (show r1 ≠ 0 from by omega) h22)
      show wW (zK sc) zM18 54 [(3, .inl 0), (2, .inl r1), (0, .inr (.inr (.inl (some (0, 0))))), (1, .inl x)] [] _ _ _
      refine ww_go 1 (pc' := 55) (L' := [(3, .inl 0), (2, .inl r1), (0, .inr (.inr (.inl (some (0, 0))))), (1, .inl x)]) (st' := [.inl 0]) (m' := m20) (o := none) rfl trivial ?_
      have zc23 : zfr (fun k i j => k = 1 ∧ i < 2 ∧ j = 1) m14 m20 := zfr_tr (zfr_rf) hEm20 (fun k i j z => by have z9 : (k = 1 ∧ i = 0 ∧ j = 1) := z; exact (show k = 1 ∧ i < 2 ∧ j = 1 from by omega))
      have zcl := zCl_F hGm14 zc23 (fun k i j z => z)
      have zpp := hr13.2.2
      rw [hr11] at zpp
      have zp1 := zTake_cg (F'' := zCF m20 x.toNat) zpp.1 (fun q hq => zcl.1 x.toNat (by omega) q hq) (by omega)
      rw [← zcl.2.2 x.toNat 3] at zp1
      rw [show r12 = 0 from by omega] at zp1
      exact ww_rB rfl rfl (by omega) ⟨zB_mono hGm20 (by omega), hFm20, Or.inl ⟨_, rfl, rfl, ⟨by omega, by omega, by omega, by omega, by omega, by omega, zp1, zcl.2.1 zpp.2⟩⟩⟩
    · show wW (zK sc) zM18 27 [(2, .inl r1), (0, .inr (.inr (.inl (some (0, 0))))), (1, .inl x)] [] _ _ _
      refine ww_go 5 (pc' := 37) (L' := [(3, .inl 1), (2, .inl r1), (0, .inr (.inr (.inl (some (0, 0))))), (1, .inl x)]) (st' := [.inr (.inr (.inl (some (1, 0))))]) (m' := m14) (o := some ((0 < 1))) rfl (show (0 < 1) from by omega) ?_
      refine ww_call (vs := [.inr (.inr (.inl (some (1, 0))))]) (r := []) (p := 0 < 171) rfl rfl rfl rfl (show 0 < 171 from by omega) (zs29 (c := c) (by omega) 0 hGm14 (by omega)) ?_
      rintro _ _ m26 ⟨rfl, rfl, hGm26, hEm26, hr25⟩
      have hFm26 : zfr (fun k i j => (k = 1 ∧ i = 0 ∧ j = 1) ∨ (k = 6 ∧ i = x.toNat ∧ j = 3 ∧ 0 ≤ x ∧ x ≤ 1) ∨ (k = 7 ∧ i = x.toNat ∧ 0 ≤ x ∧ x ≤ 1) ∨ (k = 8 ∧ i = x.toNat ∧ 0 ≤ x ∧ x ≤ 1)) m0 m26 := zfr_tr hFm14 hEm26 (fun k i j z => Or.inl z)
      have w27 : m26.1 1 1 1 = m14.1 1 1 1 := (hEm26 1 1 1 (show ¬ ((1 = 1 ∧ 1 = 0 ∧ 1 = 1)) from by omega)).1
      show wW (zK sc) zM18 40 [(3, .inl 1), (2, .inl r1), (0, .inr (.inr (.inl (some (0, 0))))), (1, .inl x)] [] _ _ _
      refine ww_go 1 (pc' := 41) (L' := [(3, .inl 1), (2, .inl r1), (0, .inr (.inr (.inl (some (0, 0))))), (1, .inl x)]) (st' := [.inl r1]) (m' := m26) (o := none) rfl trivial ?_
      refine ww_if (t := 54) rfl rfl (by omega) (fun (h28 : r1 ≠ 0) => ?_) (fun (h28 : ¬ (r1 ≠ 0)) => absurd (show r1 ≠ 0 from by omega) h28)
      show wW (zK sc) zM18 54 [(3, .inl 1), (2, .inl r1), (0, .inr (.inr (.inl (some (0, 0))))), (1, .inl x)] [] _ _ _
      refine ww_go 1 (pc' := 55) (L' := [(3, .inl 1), (2, .inl r1), (0, .inr (.inr (.inl (some (0, 0))))), (1, .inl x)]) (st' := [.inl 1]) (m' := m26) (o := none) rfl trivial ?_
      have zc29 : zfr (fun k i j => k = 1 ∧ i < 2 ∧ j = 1) m14 m26 := zfr_tr (zfr_rf) hEm26 (fun k i j z => by have z9 : (k = 1 ∧ i = 0 ∧ j = 1) := z; exact (show k = 1 ∧ i < 2 ∧ j = 1 from by omega))
      have zcl := zCl_F hGm14 zc29 (fun k i j z => z)
      have zpp := hr13.2.2
      rw [hr11] at zpp
      have zp1 := zTake_cg (F'' := zCF m26 x.toNat) zpp.1 (fun q hq => zcl.1 x.toNat (by omega) q hq) (by omega)
      rw [← zcl.2.2 x.toNat 3] at zp1
      rw [show r12 = 1 from by omega] at zp1
      exact ww_rB rfl rfl (by omega) ⟨zB_mono hGm26 (by omega), hFm26, Or.inl ⟨_, rfl, rfl, ⟨by omega, by omega, by omega, by omega, by omega, by omega, zp1, zcl.2.1 zpp.2⟩⟩⟩
set_option maxRecDepth 8000 in
/-- Dl.commit -/
theorem zs5 {sc : xSc} {n : Nat × Nat} {m0 : wm} {c : Int} (hn : n.1 < 2300) (hc : 0 ≤ c ∧ c ≤ 1000000) (x : Int) (hG : zB c m0) (h0 : -2147483648 ≤ x ∧ x ≤ 2147483647) : wX (zK sc) 5 [.inr (.inr (.inl (some (0, 0)))), .inl x] n m0 (fun o n1 m1 => zB c m1 ∧ zfr (fun k i j => (k = 3 ∧ j = 3) ∨ (k = 5) ∨ (k = 10 ∧ 3 * x.toNat ≤ i ∧ i < 3 * x.toNat + 3 ∧ 0 ≤ x ∧ x ≤ 1) ∨ (k = 1 ∧ 59 ≤ i ∧ i < 101 ∧ j = 1) ∨ (k = 2 ∧ 59 ≤ i ∧ i < 101) ∨ (k = 6 ∧ i = x.toNat ∧ 0 ≤ x ∧ x ≤ 1 ∧ j = 4)) m0 m1 ∧ ((∃ r : Int, o = .inl (some (.inl r)) ∧ n = n1 ∧ (0 ≤ x ∧ x ≤ 1 ∧ m0.1 6 x.toNat 4 < 1000 ∧ m1.1 6 x.toNat 4 = m0.1 6 x.toNat 4 + 1 ∧ r = m0.1 6 x.toNat 4 + 1 ∧ zRec m0 m1 (3 * x.toNat + ((m0.1 6 x.toNat 4 + 1) % 3).toNat) x.toNat (m0.1 6 x.toNat 4 + 1) ∧ m1.1 5 0 0 = 0 ∧ m1.1 5 0 1 = 0 ∧ m1.1 3 0 3 = 0)) ∨ (∃ q : Nat, o = .inr q ∧ (n.1 + 1, n.2 + 6) = n1 ∧ ((q = 0 ∧ (x < 0 ∨ 1 < x) ∧ m0 = m1) ∨ (q = 1 ∧ 0 ≤ x ∧ x ≤ 1 ∧ m0.1 6 x.toNat 4 = 1000 ∧ m0 = m1))))) := by
  refine wX_of (N := zM5) rfl (Nat.le_of_ble_eq_true rfl) ?_
  show wW (zK sc) zM5 0 [(0, .inr (.inr (.inl (some (0, 0))))), (1, .inl x)] [] n m0 _
  have hF : zfr (fun k i j => (k = 3 ∧ j = 3) ∨ (k = 5) ∨ (k = 10 ∧ 3 * x.toNat ≤ i ∧ i < 3 * x.toNat + 3 ∧ 0 ≤ x ∧ x ≤ 1) ∨ (k = 1 ∧ 59 ≤ i ∧ i < 101 ∧ j = 1) ∨ (k = 2 ∧ 59 ≤ i ∧ i < 101) ∨ (k = 6 ∧ i = x.toNat ∧ 0 ≤ x ∧ x ≤ 1 ∧ j = 4)) m0 m0 := zfr_rf
  have bl : 0 ≤ m0.1 6 x.toNat 4 ∧ m0.1 6 x.toNat 4 ≤ 1000 := hG.1 6 _ rfl _ _
  refine ww_go 1 (pc' := 1) (L' := [(0, .inr (.inr (.inl (some (0, 0))))), (1, .inl x)]) (st' := [.inl x]) (m' := m0) (o := none) rfl trivial ?_
  refine ww_callT (vs := [.inl x]) (r := []) (p := True) rfl rfl rfl rfl trivial (fun h => h.elim (fun z => Bool.noConfusion (show false = true from z)) (fun z => Bool.noConfusion (show true = false from z))) rfl (zs2 (c := c) hn (by omega) x hG (by omega)) (fun vq nq m1 hq => ?_) (fun kq nq m1 hq => ?_)
  · obtain ⟨hGm1, hEm1, hq⟩ := hq
    rcases hq with ⟨hv, rfl, hr2⟩ | ⟨q9, hv, _⟩
    · obtain rfl := Sum.inl.inj hv
      have hFm1 : zfr (fun k i j => (k = 3 ∧ j = 3) ∨ (k = 5) ∨ (k = 10 ∧ 3 * x.toNat ≤ i ∧ i < 3 * x.toNat + 3 ∧ 0 ≤ x ∧ x ≤ 1) ∨ (k = 1 ∧ 59 ≤ i ∧ i < 101 ∧ j = 1) ∨ (k = 2 ∧ 59 ≤ i ∧ i < 101) ∨ (k = 6 ∧ i = x.toNat ∧ 0 ≤ x ∧ x ≤ 1 ∧ j = 4)) m0 m1 := zfr_tr hF hEm1 (fun k i j z => False.elim z)
      have w4 : m1.1 6 x.toNat 4 = m0.1 6 x.toNat 4 := (hEm1 6 x.toNat 4 (show ¬ (False) from id)).1
      show wW (zK sc) zM5 4 [(0, .inr (.inr (.inl (some (0, 0))))), (1, .inl x)] [] _ _ _
      refine ww_go 3 (pc' := 9) (L' := [(0, .inr (.inr (.inl (some (0, 0))))), (1, .inl x)]) (st' := [.inl x, .inr (.inr (.inl (some (3, 0))))]) (m' := m1) (o := some ((0 < 1))) rfl (show (0 < 1) from by omega) ?_
      refine ww_call (vs := [.inr (.inr (.inl (some (3, 0)))), .inl x]) (r := []) (p := 0 < 1) rfl rfl rfl rfl (show 0 < 1 from by omega) (zs132 (c := c) (by omega) x hGm1 (by omega)) ?_
      rintro _ _ m7 ⟨r5, rfl, rfl, hGm7, hEm7, hr6⟩
      have hFm7 : zfr (fun k i j => (k = 3 ∧ j = 3) ∨ (k = 5) ∨ (k = 10 ∧ 3 * x.toNat ≤ i ∧ i < 3 * x.toNat + 3 ∧ 0 ≤ x ∧ x ≤ 1) ∨ (k = 1 ∧ 59 ≤ i ∧ i < 101 ∧ j = 1) ∨ (k = 2 ∧ 59 ≤ i ∧ i < 101) ∨ (k = 6 ∧ i = x.toNat ∧ 0 ≤ x ∧ x ≤ 1 ∧ j = 4)) m0 m7 := zfr_tr hFm1 hEm7 (fun k i j z => Or.elim z (fun z => Or.inl z) (fun z => Or.elim z (fun z => Or.inr (Or.inl z)) (fun z => Or.elim z (fun z => (show (k = 3 ∧ j = 3) ∨ (k = 5) ∨ (k = 10 ∧ 3 * x.toNat ≤ i ∧ i < 3 * x.toNat + 3 ∧ 0 ≤ x ∧ x ≤ 1) ∨ (k = 1 ∧ 59 ≤ i ∧ i < 101 ∧ j = 1) ∨ (k = 2 ∧ 59 ≤ i ∧ i < 101) ∨ (k = 6 ∧ i = x.toNat ∧ 0 ≤ x ∧ x ≤ 1 ∧ j = 4) from Or.inr (Or.inr (Or.inl ((show k = 10 ∧ 3 * x.toNat ≤ i ∧ i < 3 * x.toNat + 3 ∧ 0 ≤ x ∧ x ≤ 1 from by omega)))))) (fun z => Or.elim z (fun z => Or.inr (Or.inr (Or.inr (Or.inl z)))) (fun z => Or.elim z (fun z => Or.inr (Or.inr (Or.inr (Or.inr (Or.inl z))))) (fun z => (show (k = 3 ∧ j = 3) ∨ (k = 5) ∨ (k = 10 ∧ 3 * x.toNat ≤ i ∧ i < 3 * x.toNat + 3 ∧ 0 ≤ x ∧ x ≤ 1) ∨ (k = 1 ∧ 59 ≤ i ∧ i < 101 ∧ j = 1) ∨ (k = 2 ∧ 59 ≤ i ∧ i < 101) ∨ (k = 6 ∧ i = x.toNat ∧ 0 ≤ x ∧ x ≤ 1 ∧ j = 4) from Or.inr (Or.inr (Or.inr (Or.inr (Or.inr ((show k = 6 ∧ i = x.toNat ∧ 0 ≤ x ∧ x ≤ 1 ∧ j = 4 from by omega)))))))))))))
      show wW (zK sc) zM5 12 [(0, .inr (.inr (.inl (some (0, 0))))), (1, .inl x)] [.inl r5] _ _ _
      refine ww_go 2 (pc' := 14) (L' := [(2, .inl r5), (0, .inr (.inr (.inl (some (0, 0))))), (1, .inl x)]) (st' := [.inl r5]) (m' := m7) (o := none) rfl trivial ?_
      refine ww_if (t := 27) rfl rfl (by omega) (fun (h8 : r5 ≠ 0) => ?_) (fun (h8 : ¬ (r5 ≠ 0)) => ?_)
      · show wW (zK sc) zM5 27 [(2, .inl r5), (0, .inr (.inr (.inl (some (0, 0))))), (1, .inl x)] [] _ _ _
        refine ww_go 1 (pc' := 28) (L' := [(2, .inl r5), (0, .inr (.inr (.inl (some (0, 0))))), (1, .inl x)]) (st' := [.inl r5]) (m' := m7) (o := none) rfl trivial ?_
        exact ww_rI rfl rfl ⟨zB_mono hGm7 (by omega), hFm7, Or.inl ⟨_, rfl, rfl, Or.elim hr6 (fun z => absurd z.1 (by omega)) (fun z => (by rw [← zfr_eq hEm1] at z; exact ⟨by omega, by omega, by omega, by omega, by omega, z.2.2.2.1, z.2.2.2.2⟩))⟩⟩
      · show wW (zK sc) zM5 17 [(2, .inl r5), (0, .inr (.inr (.inl (some (0, 0))))), (1, .inl x)] [] _ _ _
        exact ww_thr rfl rfl (by decide) rfl (Nat.le_of_ble_eq_true rfl) rfl (by omega) ⟨zB_mono hGm7 (by omega), hFm7, Or.inr ⟨_, rfl, rfl, Or.elim hr6 (fun z => Or.inr ⟨rfl, by omega, by omega, by omega, (zfr_eq hEm1).trans z.2.2⟩) (fun z => absurd z.1 (by omega))⟩⟩
    · cases hv
  · obtain ⟨hGm1, hEm1, hq⟩ := hq
    rcases hq with ⟨hv, _⟩ | ⟨q9, hv, rfl, hr2⟩
    · cases hv
    · obtain rfl := Sum.inr.inj hv
      have hFm1 : zfr (fun k i j => (k = 3 ∧ j = 3) ∨ (k = 5) ∨ (k = 10 ∧ 3 * x.toNat ≤ i ∧ i < 3 * x.toNat + 3 ∧ 0 ≤ x ∧ x ≤ 1) ∨ (k = 1 ∧ 59 ≤ i ∧ i < 101 ∧ j = 1) ∨ (k = 2 ∧ 59 ≤ i ∧ i < 101) ∨ (k = 6 ∧ i = x.toNat ∧ 0 ≤ x ∧ x ≤ 1 ∧ j = 4)) m0 m1 := zfr_tr hF hEm1 (fun k i j z => False.elim z)
      have w9 : m1.1 6 x.toNat 4 = m0.1 6 x.toNat 4 := (hEm1 6 x.toNat 4 (show ¬ (False) from id)).1
      exact ⟨zB_mono hGm1 (by omega), hFm1, Or.inr ⟨_, rfl, rfl, Or.inl ⟨by omega, by omega, zfr_eq hEm1⟩⟩⟩
set_option maxRecDepth 8000 in
/-- Dl.send -/
theorem zs22 {sc : xSc} {n : Nat × Nat} {m0 : wm} {c : Int} (hn : n.1 < 2300) (hc : 0 ≤ c ∧ c ≤ 1000000)  (hG : zB c m0) (hn9 : zNP m0) : wX (zK sc) 22 [.inr (.inr (.inl (some (0, 0))))] n m0 (fun o n1 m1 => zB (c + 1) m1 ∧ zfr (fun k i j => (k = 1 ∧ i = 3 + (m0.1 0 0 7 % 32).toNat ∧ j = 1) ∨ (k = 2 ∧ i = 3 + (m0.1 0 0 7 % 32).toNat) ∨ (k = 3 ∧ j = 3) ∨ (k = 5) ∨ (k = 0)) m0 m1 ∧ ((∃ r : Int, o = .inl (some (.inl r)) ∧ n = n1 ∧ ((1 ≤ zPO m0 0 ∨ 1 ≤ zPO m0 1) ∧ r = m0.1 0 0 7 % 32 ∧ m1.1 0 0 7 = m0.1 0 0 7 + 1 ∧ m1.1 1 (3 + r.toNat) 1 = 24 ∧ zNP m1 ∧ zNxt m0 m1 (3 + r.toNat))) ∨ (∃ q : Nat, o = .inr q ∧ (n.1 + 1, n.2 + 6) = n1 ∧ (q = 1 ∧ zPO m0 0 = 0 ∧ m0 = m1)))) := by
  refine wX_of (N := zM22) rfl (Nat.le_of_ble_eq_true rfl) ?_
  show wW (zK sc) zM22 0 [(0, .inr (.inr (.inl (some (0, 0)))))] [] n m0 _
  have hF : zfr (fun k i j => (k = 1 ∧ i = 3 + (m0.1 0 0 7 % 32).toNat ∧ j = 1) ∨ (k = 2 ∧ i = 3 + (m0.1 0 0 7 % 32).toNat) ∨ (k = 3 ∧ j = 3) ∨ (k = 5) ∨ (k = 0)) m0 m0 := zfr_rf
  have bp : 0 ≤ m0.1 0 0 7 ∧ m0.1 0 0 7 ≤ c := hG.1 0 _ rfl 0 7
  have b1 : 0 ≤ m0.1 0 0 7 ∧ m0.1 0 0 7 ≤ c := hG.1 0 _ rfl _ _
  refine ww_go 3 (pc' := 6) (L' := [(0, .inr (.inr (.inl (some (0, 0)))))]) (st' := [.inl 32, .inl (m0.1 0 0 7)]) (m' := m0) (o := some ((0 < 1))) rfl (show (0 < 1) from by omega) ?_
  refine ww_call (vs := [.inl (m0.1 0 0 7), .inl 32]) (r := []) (p := True) rfl rfl rfl rfl trivial (zs258 (m0.1 0 0 7) (by omega)) ?_
  rintro _ _ _ ⟨r2, rfl, rfl, rfl, hr3⟩
  show wW (zK sc) zM22 9 [(0, .inr (.inr (.inl (some (0, 0)))))] [.inl r2] _ _ _
  refine ww_go 7 (pc' := 20) (L' := [(1, .inl r2), (0, .inr (.inr (.inl (some (0, 0)))))]) (st' := [.inr (.inr (.inl (some (1, 3 + r2.toNat)))), .inr (.inr (.inl (some (3, 0))))]) (m' := m0) (o := some ((0 < 1) ∧ (0 < 1) ∧ (0 < 1 ∧ 0 ≤ r2 ∧ r2 < ((32 : Nat) : Int)))) rfl (show (0 < 1) ∧ (0 < 1) ∧ (0 < 1 ∧ 0 ≤ r2 ∧ r2 < ((32 : Nat) : Int)) from by omega) ?_
  refine ww_call (vs := [.inr (.inr (.inl (some (3, 0)))), .inr (.inr (.inl (some (1, 3 + r2.toNat))))]) (r := []) (p := 0 < 1) rfl rfl rfl rfl (show 0 < 1 from by omega) (zs129 (c := c) (by omega) (3 + r2.toNat) hG (by omega) (by exact hn9)) ?_
  rintro _ _ m6 ⟨r4, rfl, rfl, hGm6, hEm6, hr5⟩
  have hFm6 : zfr (fun k i j => (k = 1 ∧ i = 3 + (m0.1 0 0 7 % 32).toNat ∧ j = 1) ∨ (k = 2 ∧ i = 3 + (m0.1 0 0 7 % 32).toNat) ∨ (k = 3 ∧ j = 3) ∨ (k = 5) ∨ (k = 0)) m0 m6 := zfr_tr hF hEm6 (fun k i j z => Or.elim z (fun z => (show (k = 1 ∧ i = 3 + (m0.1 0 0 7 % 32).toNat ∧ j = 1) ∨ (k = 2 ∧ i = 3 + (m0.1 0 0 7 % 32).toNat) ∨ (k = 3 ∧ j = 3) ∨ (k = 5) ∨ (k = 0) from Or.inl ((show k = 1 ∧ i = 3 + (m0.1 0 0 7 % 32).toNat ∧ j = 1 from by omega)))) (fun z => Or.elim z (fun z => (show (k = 1 ∧ i = 3 + (m0.1 0 0 7 % 32).toNat ∧ j = 1) ∨ (k = 2 ∧ i = 3 + (m0.1 0 0 7 % 32).toNat) ∨ (k = 3 ∧ j = 3) ∨ (k = 5) ∨ (k = 0) from Or.inr (Or.inl ((show k = 2 ∧ i = 3 + (m0.1 0 0 7 % 32).toNat from by omega))))) (fun z => Or.elim z (fun z => Or.inr (Or.inr (Or.inl z))) (fun z => Or.inr (Or.inr (Or.inr (Or.inl z)))))))
  have w7 : m6.1 0 0 7 = m0.1 0 0 7 := (hEm6 0 0 7 (show ¬ ((0 = 1 ∧ 0 = (3 + r2.toNat) ∧ 7 = 1) ∨ (0 = 2 ∧ 0 = (3 + r2.toNat)) ∨ (0 = 3 ∧ 7 = 3) ∨ (0 = 5)) from by omega)).1
  show wW (zK sc) zM22 23 [(1, .inl r2), (0, .inr (.inr (.inl (some (0, 0)))))] [.inl r4] _ _ _
  refine ww_if (t := 36) rfl rfl (by omega) (fun (h8 : r4 ≠ 0) => ?_) (fun (h8 : ¬ (r4 ≠ 0)) => ?_)
  · show wW (zK sc) zM22 36 [(1, .inl r2), (0, .inr (.inr (.inl (some (0, 0)))))] [] _ _ _
    have b9 : 0 ≤ m6.1 0 0 7 ∧ m6.1 0 0 7 ≤ c := hGm6.1 0 _ rfl _ _
    refine ww_go 6 (pc' := 46) (L' := [(1, .inl r2), (0, .inr (.inr (.inl (some (0, 0)))))]) (st' := []) (m' := wuI m6 0 0 7 ((m6.1 0 0 7) + 1)) (o := some ((0 < 1) ∧ (0 < 1))) rfl (show (0 < 1) ∧ (0 < 1) from by omega) ?_
    obtain ⟨m10, hm10⟩ : ∃ zq9 : wm, zq9 = wuI m6 0 0 7 ((m6.1 0 0 7) + 1) := ⟨_, rfl⟩
    rw [← hm10]
    have hXm10 := zB_mono (c' := (c + 1)) hGm6 (by omega)
    have hGm10 : zB (c + 1) m10 := by rw [hm10]; exact zB_wI rfl (show 0 ≤ (m6.1 0 0 7) + 1 ∧ (m6.1 0 0 7) + 1 ≤ (c + 1) from by omega) hXm10
    have hFm10 : zfr (fun k i j => (k = 1 ∧ i = 3 + (m0.1 0 0 7 % 32).toNat ∧ j = 1) ∨ (k = 2 ∧ i = 3 + (m0.1 0 0 7 % 32).toNat) ∨ (k = 3 ∧ j = 3) ∨ (k = 5) ∨ (k = 0)) m0 m10 := by rw [hm10]; exact zfr_wI hFm6 (show (0 = 1 ∧ 0 = 3 + (m0.1 0 0 7 % 32).toNat ∧ 7 = 1) ∨ (0 = 2 ∧ 0 = 3 + (m0.1 0 0 7 % 32).toNat) ∨ (0 = 3 ∧ 7 = 3) ∨ (0 = 5) ∨ (0 = 0) from Or.inr (Or.inr (Or.inr (Or.inr (rfl)))))
    have s11 : m10.1 0 0 7 = (m6.1 0 0 7) + 1 := by rw [hm10]; exact wuI_self
    refine ww_go 1 (pc' := 47) (L' := [(1, .inl r2), (0, .inr (.inr (.inl (some (0, 0)))))]) (st' := [.inl r2]) (m' := m10) (o := none) rfl trivial ?_
    have zsl : 3 + (r2).toNat = 3 + r2.toNat := by omega
    exact ww_rI rfl rfl ⟨zB_mono hGm10 (by omega), hFm10, Or.inl ⟨_, rfl, rfl, Or.elim hr5 (fun z => absurd z.1 (by omega)) (fun z => ⟨z.2.1, by omega, by omega, (by rw [hm10, zsl]; exact z.2.2.1), (by rw [hm10]; exact zNP_w0 hGm6 z.2.2.2.1), (by rw [hm10, zsl]; exact z.2.2.2.2)⟩)⟩⟩
  · show wW (zK sc) zM22 26 [(1, .inl r2), (0, .inr (.inr (.inl (some (0, 0)))))] [] _ _ _
    exact ww_thr rfl rfl (by decide) rfl (Nat.le_of_ble_eq_true rfl) rfl (by omega) ⟨zB_mono hGm6 (by omega), hFm6, Or.inr ⟨_, rfl, rfl, Or.elim hr5 (fun z => ⟨rfl, z.2.1, z.2.2⟩) (fun z => absurd z.1 (by omega))⟩⟩
set_option maxRecDepth 8000 in
/-- Dl.packet -/
theorem zs14 {sc : xSc} {n : Nat × Nat} {m0 : wm} {c : Int} (hn : n.1 < 2300) (hc : 0 ≤ c ∧ c ≤ 1000000) (x : Int) (y : Int) (hG : zB c m0) (h0 : -2147483648 ≤ x ∧ x ≤ 2147483647 ∧ -2147483648 ≤ y ∧ y ≤ 2147483647) : wX (zK sc) 14 [.inr (.inr (.inl (some (0, 0)))), .inl x, .inl y] n m0 (fun o n1 m1 => zB c m1 ∧ zfr (fun k i j => False) m0 m1 ∧ ((∃ r : Int64, o = .inl (some (.inr (.inl r))) ∧ n = n1 ∧ (0 ≤ x ∧ x ≤ 31 ∧ 1 ≤ m0.1 1 (3 + x.toNat) 1 ∧ (y = 0 ∨ y = 8 ∨ y = 16) ∧ r = zen (fun k => (zBR m0 (3 + x.toNat)).2 (y.toNat + k)) 8)) ∨ (∃ q : Nat, o = .inr q ∧ (n.1 + 1, n.2 + 6) = n1 ∧ (q = 0 ∧ ¬ (0 ≤ x ∧ x ≤ 31 ∧ 1 ≤ m0.1 1 (3 + x.toNat) 1 ∧ (y = 0 ∨ y = 8 ∨ y = 16)))))) := by
  refine wX_of (N := zM14) rfl (Nat.le_of_ble_eq_true rfl) ?_
  show wW (zK sc) zM14 0 [(0, .inr (.inr (.inl (some (0, 0))))), (1, .inl x), (2, .inl y)] [] n m0 _
  have hF : zfr (fun k i j => False) m0 m0 := zfr_rf
  have bz : 0 ≤ m0.1 1 (3 + x.toNat) 1 ∧ m0.1 1 (3 + x.toNat) 1 ≤ ((zlim (3 + x.toNat) : Nat) : Int) := hG.1 1 _ rfl _ _
  refine ww_go 2 (pc' := 2) (L' := [(0, .inr (.inr (.inl (some (0, 0))))), (1, .inl x), (2, .inl y)]) (st' := [.inl x, .inr (.inr (.inl (some (0, 0))))]) (m' := m0) (o := none) rfl trivial ?_
  refine ww_callT (vs := [.inr (.inr (.inl (some (0, 0)))), .inl x]) (r := []) (p := 0 < 1) rfl rfl rfl rfl (show 0 < 1 from by omega) (fun h => h.elim (fun z => Bool.noConfusion (show false = true from z)) (fun z => Bool.noConfusion (show true = false from z))) rfl (zs3 (c := c) hn (by omega) x hG (by omega)) (fun vq nq m1 hq => ?_) (fun kq nq m1 hq => ?_)
  · obtain ⟨hGm1, hEm1, hq⟩ := hq
    rcases hq with ⟨hv, rfl, hr2⟩ | ⟨q9, hv, _⟩
    · obtain rfl := Sum.inl.inj hv
      have hFm1 : zfr (fun k i j => False) m0 m1 := zfr_tr hF hEm1 (fun k i j z => False.elim z)
      have w4 : m1.1 1 (3 + x.toNat) 1 = m0.1 1 (3 + x.toNat) 1 := (hEm1 1 (3 + x.toNat) 1 (show ¬ (False) from id)).1
      show wW (zK sc) zM14 5 [(0, .inr (.inr (.inl (some (0, 0))))), (1, .inl x), (2, .inl y)] [] _ _ _
      refine ww_go 1 (pc' := 6) (L' := [(0, .inr (.inr (.inl (some (0, 0))))), (1, .inl x), (2, .inl y)]) (st' := [.inl y]) (m' := m1) (o := none) rfl trivial ?_
      refine ww_if (t := 31) rfl rfl (by omega) (fun (h5 : y = 0) => ?_) (fun (h5 : ¬ (y = 0)) => ?_)
      · show wW (zK sc) zM14 31 [(0, .inr (.inr (.inl (some (0, 0))))), (1, .inl x), (2, .inl y)] [] _ _ _
        refine ww_go 6 (pc' := 40) (L' := [(0, .inr (.inr (.inl (some (0, 0))))), (1, .inl x), (2, .inl y)]) (st' := [.inl 8, .inl y, .inr (.inr (.inl (some (1, 3 + x.toNat))))]) (m' := m1) (o := some ((0 < 1) ∧ (0 < 1 ∧ 0 ≤ x ∧ x < ((32 : Nat) : Int)))) rfl (show (0 < 1) ∧ (0 < 1 ∧ 0 ≤ x ∧ x < ((32 : Nat) : Int)) from by omega) ?_
        refine ww_call (vs := [.inr (.inr (.inl (some (1, 3 + x.toNat)))), .inl y, .inl 8]) (r := []) (p := 3 + x.toNat < 171) rfl rfl rfl rfl (show 3 + x.toNat < 171 from by omega) (zs36 (c := c) (by omega) y 8 (3 + x.toNat) hGm1 (by omega)) ?_
        rintro _ _ _ ⟨r6, rfl, rfl, rfl, hr7⟩
        show wW (zK sc) zM14 43 [(0, .inr (.inr (.inl (some (0, 0))))), (1, .inl x), (2, .inl y)] [.inr (.inl r6)] _ _ _
        exact ww_rL rfl rfl ⟨zB_mono hGm1 (by omega), hFm1, Or.inl ⟨_, rfl, rfl, ⟨by omega, by omega, by omega, by omega, (by have z9 := hr7.2 (by omega); rw [← zfr_eq hEm1] at z9; exact z9)⟩⟩⟩
      · show wW (zK sc) zM14 9 [(0, .inr (.inr (.inl (some (0, 0))))), (1, .inl x), (2, .inl y)] [] _ _ _
        refine ww_go 2 (pc' := 12) (L' := [(0, .inr (.inr (.inl (some (0, 0))))), (1, .inl x), (2, .inl y)]) (st' := [.inl 8, .inl y]) (m' := m1) (o := none) rfl trivial ?_
        refine ww_ic (t := 31) rfl rfl (by omega) (fun (h8 : y = 8) => ?_) (fun (h8 : ¬ (y = 8)) => ?_)
        · show wW (zK sc) zM14 31 [(0, .inr (.inr (.inl (some (0, 0))))), (1, .inl x), (2, .inl y)] [] _ _ _
          refine ww_go 6 (pc' := 40) (L' := [(0, .inr (.inr (.inl (some (0, 0))))), (1, .inl x), (2, .inl y)]) (st' := [.inl 8, .inl y, .inr (.inr (.inl (some (1, 3 + x.toNat))))]) (m' := m1) (o := some ((0 < 1) ∧ (0 < 1 ∧ 0 ≤ x ∧ x < ((32 : Nat) : Int)))) rfl (show (0 < 1) ∧ (0 < 1 ∧ 0 ≤ x ∧ x < ((32 : Nat) : Int)) from by omega) ?_
          refine ww_call (vs := [.inr (.inr (.inl (some (1, 3 + x.toNat)))), .inl y, .inl 8]) (r := []) (p := 3 + x.toNat < 171) rfl rfl rfl rfl (show 3 + x.toNat < 171 from by omega) (zs36 (c := c) (by omega) y 8 (3 + x.toNat) hGm1 (by omega)) ?_
          rintro _ _ _ ⟨r9, rfl, rfl, rfl, hr10⟩
          show wW (zK sc) zM14 43 [(0, .inr (.inr (.inl (some (0, 0))))), (1, .inl x), (2, .inl y)] [.inr (.inl r9)] _ _ _
          exact ww_rL rfl rfl ⟨zB_mono hGm1 (by omega), hFm1, Or.inl ⟨_, rfl, rfl, ⟨by omega, by omega, by omega, by omega, (by have z9 := hr10.2 (by omega); rw [← zfr_eq hEm1] at z9; exact z9)⟩⟩⟩
        · show wW (zK sc) zM14 15 [(0, .inr (.inr (.inl (some (0, 0))))), (1, .inl x), (2, .inl y)] [] _ _ _
          refine ww_go 2 (pc' := 18) (L' := [(0, .inr (.inr (.inl (some (0, 0))))), (1, .inl x), (2, .inl y)]) (st' := [.inl 16, .inl y]) (m' := m1) (o := none) rfl trivial ?_
          refine ww_ic (t := 31) rfl rfl (by omega) (fun (h11 : y = 16) => ?_) (fun (h11 : ¬ (y = 16)) => ?_)
          · show wW (zK sc) zM14 31 [(0, .inr (.inr (.inl (some (0, 0))))), (1, .inl x), (2, .inl y)] [] _ _ _
            refine ww_go 6 (pc' := 40) (L' := [(0, .inr (.inr (.inl (some (0, 0))))), (1, .inl x), (2, .inl y)]) (st' := [.inl 8, .inl y, .inr (.inr (.inl (some (1, 3 + x.toNat))))]) (m' := m1) (o := some ((0 < 1) ∧ (0 < 1 ∧ 0 ≤ x ∧ x < ((32 : Nat) : Int)))) rfl (show (0 < 1) ∧ (0 < 1 ∧ 0 ≤ x ∧ x < ((32 : Nat) : Int)) from by omega) ?_
            refine ww_call (vs := [.inr (.inr (.inl (some (1, 3 + x.toNat)))), .inl y, .inl 8]) (r := []) (p := 3 + x.toNat < 171) rfl rfl rfl rfl (show 3 + x.toNat < 171 from by omega) (zs36 (c := c) (by omega) y 8 (3 + x.toNat) hGm1 (by omega)) ?_
            rintro _ _ _ ⟨r12, rfl, rfl, rfl, hr13⟩
            show wW (zK sc) zM14 43 [(0, .inr (.inr (.inl (some (0, 0))))), (1, .inl x), (2, .inl y)] [.inr (.inl r12)] _ _ _
            exact ww_rL rfl rfl ⟨zB_mono hGm1 (by omega), hFm1, Or.inl ⟨_, rfl, rfl, ⟨by omega, by omega, by omega, by omega, (by have z9 := hr13.2 (by omega); rw [← zfr_eq hEm1] at z9; exact z9)⟩⟩⟩
          · show wW (zK sc) zM14 21 [(0, .inr (.inr (.inl (some (0, 0))))), (1, .inl x), (2, .inl y)] [] _ _ _
            exact ww_thr rfl rfl (by decide) rfl (Nat.le_of_ble_eq_true rfl) rfl (by omega) ⟨zB_mono hGm1 (by omega), hFm1, Or.inr ⟨_, rfl, rfl, by omega⟩⟩
    · cases hv
  · obtain ⟨hGm1, hEm1, hq⟩ := hq
    rcases hq with ⟨hv, _⟩ | ⟨q9, hv, rfl, hr2⟩
    · cases hv
    · obtain rfl := Sum.inr.inj hv
      have hFm1 : zfr (fun k i j => False) m0 m1 := zfr_tr hF hEm1 (fun k i j z => False.elim z)
      have w14 : m1.1 1 (3 + x.toNat) 1 = m0.1 1 (3 + x.toNat) 1 := (hEm1 1 (3 + x.toNat) 1 (show ¬ (False) from id)).1
      exact ⟨zB_mono hGm1 (by omega), hFm1, Or.inr ⟨_, rfl, rfl, by omega⟩⟩
set_option maxRecDepth 8000 in
/-- Dl.alter -/
theorem zs1 {sc : xSc} {n : Nat × Nat} {m0 : wm} {c : Int} (hn : n.1 < 2300) (hc : 0 ≤ c ∧ c ≤ 1000000) (x : Int) (y : Int) (z : Int) (hG : zB c m0) (h0 : -2147483648 ≤ x ∧ x ≤ 2147483647 ∧ -2147483648 ≤ y ∧ y ≤ 2147483647 ∧ -2147483648 ≤ z ∧ z ≤ 2147483647) : wX (zK sc) 1 [.inr (.inr (.inl (some (0, 0)))), .inl x, .inl y, .inl z] n m0 (fun o n1 m1 => zB c m1 ∧ zfr (fun k i j => (k = 2 ∧ i = 3 + x.toNat ∧ j = y.toNat ∧ 0 ≤ x ∧ x ≤ 31 ∧ 0 ≤ y ∧ y ≤ 23)) m0 m1 ∧ ((o = .inl none ∧ n = n1 ∧ (0 ≤ x ∧ x ≤ 31 ∧ 1 ≤ m0.1 1 (3 + x.toNat) 1 ∧ 0 ≤ y ∧ y ≤ 23 ∧ (y < m0.1 1 (3 + x.toNat) 1 → m1.1 2 (3 + x.toNat) y.toNat = wand (wxor (m0.1 2 (3 + x.toNat) y.toNat) z) 255))) ∨ (∃ q : Nat, o = .inr q ∧ (n.1 + 1, n.2 + 6) = n1 ∧ (q = 0 ∧ ¬ (0 ≤ x ∧ x ≤ 31 ∧ 1 ≤ m0.1 1 (3 + x.toNat) 1 ∧ 0 ≤ y ∧ y ≤ 23))))) := by
  refine wX_of (N := zM1) rfl (Nat.le_of_ble_eq_true rfl) ?_
  show wW (zK sc) zM1 0 [(0, .inr (.inr (.inl (some (0, 0))))), (1, .inl x), (2, .inl y), (3, .inl z)] [] n m0 _
  have hF : zfr (fun k i j => (k = 2 ∧ i = 3 + x.toNat ∧ j = y.toNat ∧ 0 ≤ x ∧ x ≤ 31 ∧ 0 ≤ y ∧ y ≤ 23)) m0 m0 := zfr_rf
  have bz : 0 ≤ m0.1 1 (3 + x.toNat) 1 ∧ m0.1 1 (3 + x.toNat) 1 ≤ ((zlim (3 + x.toNat) : Nat) : Int) := hG.1 1 _ rfl _ _
  refine ww_go 2 (pc' := 2) (L' := [(0, .inr (.inr (.inl (some (0, 0))))), (1, .inl x), (2, .inl y), (3, .inl z)]) (st' := [.inl x, .inr (.inr (.inl (some (0, 0))))]) (m' := m0) (o := none) rfl trivial ?_
  refine ww_callT (vs := [.inr (.inr (.inl (some (0, 0)))), .inl x]) (r := []) (p := 0 < 1) rfl rfl rfl rfl (show 0 < 1 from by omega) (fun h => h.elim (fun z => Bool.noConfusion (show false = true from z)) (fun z => Bool.noConfusion (show true = false from z))) rfl (zs3 (c := c) hn (by omega) x hG (by omega)) (fun vq nq m1 hq => ?_) (fun kq nq m1 hq => ?_)
  · obtain ⟨hGm1, hEm1, hq⟩ := hq
    rcases hq with ⟨hv, rfl, hr2⟩ | ⟨q9, hv, _⟩
    · obtain rfl := Sum.inl.inj hv
      have hFm1 : zfr (fun k i j => (k = 2 ∧ i = 3 + x.toNat ∧ j = y.toNat ∧ 0 ≤ x ∧ x ≤ 31 ∧ 0 ≤ y ∧ y ≤ 23)) m0 m1 := zfr_tr hF hEm1 (fun k i j z => False.elim z)
      have w4 : m1.1 1 (3 + x.toNat) 1 = m0.1 1 (3 + x.toNat) 1 := (hEm1 1 (3 + x.toNat) 1 (show ¬ (False) from id)).1
      show wW (zK sc) zM1 5 [(0, .inr (.inr (.inl (some (0, 0))))), (1, .inl x), (2, .inl y), (3, .inl z)] [] _ _ _
      refine ww_go 1 (pc' := 6) (L' := [(0, .inr (.inr (.inl (some (0, 0))))), (1, .inl x), (2, .inl y), (3, .inl z)]) (st' := [.inl y]) (m' := m1) (o := none) rfl trivial ?_
      refine ww_if (t := 15) rfl rfl (by omega) (fun (h5 : y < 0) => ?_) (fun (h5 : ¬ (y < 0)) => ?_)
      · show wW (zK sc) zM1 15 [(0, .inr (.inr (.inl (some (0, 0))))), (1, .inl x), (2, .inl y), (3, .inl z)] [] _ _ _
        exact ww_thr rfl rfl (by decide) rfl (Nat.le_of_ble_eq_true rfl) rfl (by omega) ⟨zB_mono hGm1 (by omega), hFm1, Or.inr ⟨_, rfl, rfl, by omega⟩⟩
      · show wW (zK sc) zM1 9 [(0, .inr (.inr (.inl (some (0, 0))))), (1, .inl x), (2, .inl y), (3, .inl z)] [] _ _ _
        refine ww_go 2 (pc' := 12) (L' := [(0, .inr (.inr (.inl (some (0, 0))))), (1, .inl x), (2, .inl y), (3, .inl z)]) (st' := [.inl 24, .inl y]) (m' := m1) (o := none) rfl trivial ?_
        refine ww_ic (t := 25) rfl rfl (by omega) (fun (h6 : y < 24) => ?_) (fun (h6 : ¬ (y < 24)) => ?_)
        · show wW (zK sc) zM1 25 [(0, .inr (.inr (.inl (some (0, 0))))), (1, .inl x), (2, .inl y), (3, .inl z)] [] _ _ _
          refine ww_go 6 (pc' := 33) (L' := [(0, .inr (.inr (.inl (some (0, 0))))), (1, .inl x), (2, .inl y), (3, .inl z)]) (st' := [.inl z, .inl y, .inr (.inr (.inl (some (1, 3 + x.toNat))))]) (m' := m1) (o := some ((0 < 1) ∧ (0 < 1 ∧ 0 ≤ x ∧ x < ((32 : Nat) : Int)))) rfl (show (0 < 1) ∧ (0 < 1 ∧ 0 ≤ x ∧ x < ((32 : Nat) : Int)) from by omega) ?_
          refine ww_call (vs := [.inr (.inr (.inl (some (1, 3 + x.toNat)))), .inl y, .inl z]) (r := []) (p := 3 + x.toNat < 171) rfl rfl rfl rfl (show 3 + x.toNat < 171 from by omega) (zs41 (c := c) (by omega) y z (3 + x.toNat) hGm1 (by omega)) ?_
          rintro _ _ m9 ⟨rfl, rfl, hGm9, hEm9, hr8⟩
          have hFm9 : zfr (fun k i j => (k = 2 ∧ i = 3 + x.toNat ∧ j = y.toNat ∧ 0 ≤ x ∧ x ≤ 31 ∧ 0 ≤ y ∧ y ≤ 23)) m0 m9 := zfr_tr hFm1 hEm9 (fun k i j z => (show (k = 2 ∧ i = 3 + x.toNat ∧ j = y.toNat ∧ 0 ≤ x ∧ x ≤ 31 ∧ 0 ≤ y ∧ y ≤ 23) from (show k = 2 ∧ i = 3 + x.toNat ∧ j = y.toNat ∧ 0 ≤ x ∧ x ≤ 31 ∧ 0 ≤ y ∧ y ≤ 23 from by omega)))
          have w10 : m9.1 1 (3 + x.toNat) 1 = m1.1 1 (3 + x.toNat) 1 := (hEm9 1 (3 + x.toNat) 1 (show ¬ ((1 = 2 ∧ (3 + x.toNat) = (3 + x.toNat) ∧ 1 = y.toNat)) from by omega)).1
          show wW (zK sc) zM1 36 [(0, .inr (.inr (.inl (some (0, 0))))), (1, .inl x), (2, .inl y), (3, .inl z)] [] _ _ _
          exact ww_rV rfl rfl ⟨zB_mono hGm9 (by omega), hFm9, Or.inl ⟨rfl, rfl, ⟨by omega, by omega, by omega, by omega, by omega, fun z9 => (by have z8 := hr8; rw [← zfr_eq hEm1] at z8; exact z8 (by omega) z9)⟩⟩⟩
        · show wW (zK sc) zM1 15 [(0, .inr (.inr (.inl (some (0, 0))))), (1, .inl x), (2, .inl y), (3, .inl z)] [] _ _ _
          exact ww_thr rfl rfl (by decide) rfl (Nat.le_of_ble_eq_true rfl) rfl (by omega) ⟨zB_mono hGm1 (by omega), hFm1, Or.inr ⟨_, rfl, rfl, by omega⟩⟩
    · cases hv
  · obtain ⟨hGm1, hEm1, hq⟩ := hq
    rcases hq with ⟨hv, _⟩ | ⟨q9, hv, rfl, hr2⟩
    · cases hv
    · obtain rfl := Sum.inr.inj hv
      have hFm1 : zfr (fun k i j => (k = 2 ∧ i = 3 + x.toNat ∧ j = y.toNat ∧ 0 ≤ x ∧ x ≤ 31 ∧ 0 ≤ y ∧ y ≤ 23)) m0 m1 := zfr_tr hF hEm1 (fun k i j z => False.elim z)
      have w11 : m1.1 1 (3 + x.toNat) 1 = m0.1 1 (3 + x.toNat) 1 := (hEm1 1 (3 + x.toNat) 1 (show ¬ (False) from id)).1
      exact ⟨zB_mono hGm1 (by omega), hFm1, Or.inr ⟨_, rfl, rfl, by omega⟩⟩
set_option maxRecDepth 8000 in
/-- Dl.hear -/
theorem zs10 {sc : xSc} {n : Nat × Nat} {m0 : wm} {c : Int} (hn : n.1 < 2300) (hc : 0 ≤ c ∧ c ≤ 970000) (x : Int) (hG : zB c m0) (h0 : -2147483648 ≤ x ∧ x ≤ 2147483647) : wX (zK sc) 10 [.inr (.inr (.inl (some (0, 0)))), .inl x] n m0 (fun o n1 m1 => zB (c + 4) m1 ∧ zfr (fun k i j => (k = 22) ∨ (k = 23) ∨ (k = 24) ∨ (k = 25) ∨ (k = 1 ∧ 101 ≤ i ∧ i < 171 ∧ j = 1) ∨ (k = 2 ∧ 101 ≤ i ∧ i < 171) ∨ (26 ≤ k ∧ k ≤ 33 ∧ i < 10) ∨ (k = 1 ∧ i = 2 ∧ j = 1) ∨ (k = 2 ∧ i = 2) ∨ (k = 16) ∨ (k = 17) ∨ (k = 18) ∨ (k = 19)) m0 m1 ∧ ((∃ r : Int, o = .inl (some (.inl r)) ∧ n = n1 ∧ (0 ≤ r ∧ r ≤ 6)) ∨ (∃ q : Nat, o = .inr q ∧ (n.1 + 1, n.2 + 6) = n1 ∧ (q = 0)))) := by
  refine wX_of (N := zM10) rfl (Nat.le_of_ble_eq_true rfl) ?_
  show wW (zK sc) zM10 0 [(0, .inr (.inr (.inl (some (0, 0))))), (1, .inl x)] [] n m0 _
  have hF : zfr (fun k i j => (k = 22) ∨ (k = 23) ∨ (k = 24) ∨ (k = 25) ∨ (k = 1 ∧ 101 ≤ i ∧ i < 171 ∧ j = 1) ∨ (k = 2 ∧ 101 ≤ i ∧ i < 171) ∨ (26 ≤ k ∧ k ≤ 33 ∧ i < 10) ∨ (k = 1 ∧ i = 2 ∧ j = 1) ∨ (k = 2 ∧ i = 2) ∨ (k = 16) ∨ (k = 17) ∨ (k = 18) ∨ (k = 19)) m0 m0 := zfr_rf
  refine ww_go 2 (pc' := 2) (L' := [(0, .inr (.inr (.inl (some (0, 0))))), (1, .inl x)]) (st' := [.inl x, .inr (.inr (.inl (some (0, 0))))]) (m' := m0) (o := none) rfl trivial ?_
  refine ww_callT (vs := [.inr (.inr (.inl (some (0, 0)))), .inl x]) (r := []) (p := 0 < 1) rfl rfl rfl rfl (show 0 < 1 from by omega) (fun h => h.elim (fun z => Bool.noConfusion (show false = true from z)) (fun z => Bool.noConfusion (show true = false from z))) rfl (zs3 (c := c) hn (by omega) x hG (by omega)) (fun vq nq m1 hq => ?_) (fun kq nq m1 hq => ?_)
  · obtain ⟨hGm1, hEm1, hq⟩ := hq
    rcases hq with ⟨hv, rfl, hr2⟩ | ⟨q9, hv, _⟩
    · obtain rfl := Sum.inl.inj hv
      have hFm1 : zfr (fun k i j => (k = 22) ∨ (k = 23) ∨ (k = 24) ∨ (k = 25) ∨ (k = 1 ∧ 101 ≤ i ∧ i < 171 ∧ j = 1) ∨ (k = 2 ∧ 101 ≤ i ∧ i < 171) ∨ (26 ≤ k ∧ k ≤ 33 ∧ i < 10) ∨ (k = 1 ∧ i = 2 ∧ j = 1) ∨ (k = 2 ∧ i = 2) ∨ (k = 16) ∨ (k = 17) ∨ (k = 18) ∨ (k = 19)) m0 m1 := zfr_tr hF hEm1 (fun k i j z => False.elim z)
      show wW (zK sc) zM10 5 [(0, .inr (.inr (.inl (some (0, 0))))), (1, .inl x)] [] _ _ _
      refine ww_go 6 (pc' := 15) (L' := [(0, .inr (.inr (.inl (some (0, 0))))), (1, .inl x)]) (st' := [.inr (.inr (.inl (some (1, 3 + x.toNat)))), .inr (.inr (.inl (some (19, 0))))]) (m' := m1) (o := some ((0 < 1) ∧ (0 < 1) ∧ (0 < 1 ∧ 0 ≤ x ∧ x < ((32 : Nat) : Int)))) rfl (show (0 < 1) ∧ (0 < 1) ∧ (0 < 1 ∧ 0 ≤ x ∧ x < ((32 : Nat) : Int)) from by omega) ?_
      refine ww_call (vs := [.inr (.inr (.inl (some (19, 0)))), .inr (.inr (.inl (some (1, 3 + x.toNat))))]) (r := []) (p := 0 < 1) rfl rfl rfl rfl (show 0 < 1 from by omega) (zs92 (c := c) (by omega) (3 + x.toNat) hGm1 (by omega)) ?_
      rintro _ _ m6 ⟨r4, rfl, rfl, hGm6, hEm6, hr5⟩
      have hFm6 : zfr (fun k i j => (k = 22) ∨ (k = 23) ∨ (k = 24) ∨ (k = 25) ∨ (k = 1 ∧ 101 ≤ i ∧ i < 171 ∧ j = 1) ∨ (k = 2 ∧ 101 ≤ i ∧ i < 171) ∨ (26 ≤ k ∧ k ≤ 33 ∧ i < 10) ∨ (k = 1 ∧ i = 2 ∧ j = 1) ∨ (k = 2 ∧ i = 2) ∨ (k = 16) ∨ (k = 17) ∨ (k = 18) ∨ (k = 19)) m0 m6 := zfr_tr hFm1 hEm6 (fun k i j z => Or.elim z (fun z => Or.inl z) (fun z => Or.elim z (fun z => Or.inr (Or.inl z)) (fun z => Or.elim z (fun z => Or.inr (Or.inr (Or.inl z))) (fun z => Or.elim z (fun z => Or.inr (Or.inr (Or.inr (Or.inl z)))) (fun z => Or.elim z (fun z => Or.inr (Or.inr (Or.inr (Or.inr (Or.inl z))))) (fun z => Or.elim z (fun z => Or.inr (Or.inr (Or.inr (Or.inr (Or.inr (Or.inl z)))))) (fun z => Or.elim z (fun z => Or.inr (Or.inr (Or.inr (Or.inr (Or.inr (Or.inr (Or.inl z))))))) (fun z => Or.elim z (fun z => Or.inr (Or.inr (Or.inr (Or.inr (Or.inr (Or.inr (Or.inr (Or.inl z)))))))) (fun z => Or.elim z (fun z => Or.inr (Or.inr (Or.inr (Or.inr (Or.inr (Or.inr (Or.inr (Or.inr (Or.inl z))))))))) (fun z => Or.elim z (fun z => Or.inr (Or.inr (Or.inr (Or.inr (Or.inr (Or.inr (Or.inr (Or.inr (Or.inr (Or.inl z)))))))))) (fun z => Or.elim z (fun z => Or.inr (Or.inr (Or.inr (Or.inr (Or.inr (Or.inr (Or.inr (Or.inr (Or.inr (Or.inr (Or.inl z))))))))))) (fun z => Or.elim z (fun z => Or.inr (Or.inr (Or.inr (Or.inr (Or.inr (Or.inr (Or.inr (Or.inr (Or.inr (Or.inr (Or.inr (Or.inl z)))))))))))) (fun z => Or.inr (Or.inr (Or.inr (Or.inr (Or.inr (Or.inr (Or.inr (Or.inr (Or.inr (Or.inr (Or.inr (Or.inr (z)))))))))))))))))))))))))
      show wW (zK sc) zM10 18 [(0, .inr (.inr (.inl (some (0, 0))))), (1, .inl x)] [.inl r4] _ _ _
      exact ww_rI rfl rfl ⟨zB_mono hGm6 (by omega), hFm6, Or.inl ⟨_, rfl, rfl, by omega⟩⟩
    · cases hv
  · obtain ⟨hGm1, hEm1, hq⟩ := hq
    rcases hq with ⟨hv, _⟩ | ⟨q9, hv, rfl, hr2⟩
    · cases hv
    · obtain rfl := Sum.inr.inj hv
      have hFm1 : zfr (fun k i j => (k = 22) ∨ (k = 23) ∨ (k = 24) ∨ (k = 25) ∨ (k = 1 ∧ 101 ≤ i ∧ i < 171 ∧ j = 1) ∨ (k = 2 ∧ 101 ≤ i ∧ i < 171) ∨ (26 ≤ k ∧ k ≤ 33 ∧ i < 10) ∨ (k = 1 ∧ i = 2 ∧ j = 1) ∨ (k = 2 ∧ i = 2) ∨ (k = 16) ∨ (k = 17) ∨ (k = 18) ∨ (k = 19)) m0 m1 := zfr_tr hF hEm1 (fun k i j z => False.elim z)
      exact ⟨zB_mono hGm1 (by omega), hFm1, Or.inr ⟨_, rfl, rfl, by omega⟩⟩
set_option maxRecDepth 8000 in
/-- Dl.restartSender -/
theorem zs20 {sc : xSc} {n : Nat × Nat} {m0 : wm} {c : Int} (hn : n.1 < 2300) (hc : 0 ≤ c ∧ c ≤ 1000000)  (hG : zB c m0) : wX (zK sc) 20 [.inr (.inr (.inl (some (0, 0))))] n m0 (fun o n1 m1 => zB c m1 ∧ zfr (fun k i j => (k = 3 ∧ j = 3) ∨ (k = 5) ∨ (k = 3 ∧ j = 2)) m0 m1 ∧ ((∃ r : Int, o = .inl (some (.inl r)) ∧ n = n1 ∧ (m0.1 3 0 2 < 255 ∧ m1.1 3 0 2 = m0.1 3 0 2 + 1 ∧ r = m0.1 3 0 2 + 1 ∧ m1.1 5 0 0 = 0 ∧ m1.1 5 0 1 = 0 ∧ m1.1 3 0 3 = 0)) ∨ (∃ q : Nat, o = .inr q ∧ (n.1 + 1, n.2 + 6) = n1 ∧ (q = 1 ∧ m0.1 3 0 2 = 255 ∧ m0 = m1)))) := by
  refine wX_of (N := zM20) rfl (Nat.le_of_ble_eq_true rfl) ?_
  show wW (zK sc) zM20 0 [(0, .inr (.inr (.inl (some (0, 0)))))] [] n m0 _
  have hF : zfr (fun k i j => (k = 3 ∧ j = 3) ∨ (k = 5) ∨ (k = 3 ∧ j = 2)) m0 m0 := zfr_rf
  refine ww_go 2 (pc' := 4) (L' := [(0, .inr (.inr (.inl (some (0, 0)))))]) (st' := [.inr (.inr (.inl (some (3, 0))))]) (m' := m0) (o := some ((0 < 1))) rfl (show (0 < 1) from by omega) ?_
  refine ww_call (vs := [.inr (.inr (.inl (some (3, 0))))]) (r := []) (p := 0 < 1) rfl rfl rfl rfl (show 0 < 1 from by omega) (zs126 (c := c) (by omega) hG) ?_
  rintro _ _ m3 ⟨r1, rfl, rfl, hGm3, hEm3, hr2⟩
  have hFm3 : zfr (fun k i j => (k = 3 ∧ j = 3) ∨ (k = 5) ∨ (k = 3 ∧ j = 2)) m0 m3 := zfr_tr hF hEm3 (fun k i j z => Or.elim z (fun z => Or.inl z) (fun z => Or.elim z (fun z => Or.inr (Or.inl z)) (fun z => Or.inr (Or.inr (z)))))
  show wW (zK sc) zM20 7 [(0, .inr (.inr (.inl (some (0, 0)))))] [.inl r1] _ _ _
  refine ww_if (t := 20) rfl rfl (by omega) (fun (h4 : r1 ≠ 0) => ?_) (fun (h4 : ¬ (r1 ≠ 0)) => ?_)
  · show wW (zK sc) zM20 20 [(0, .inr (.inr (.inl (some (0, 0)))))] [] _ _ _
    refine ww_go 2 (pc' := 24) (L' := [(0, .inr (.inr (.inl (some (0, 0)))))]) (st' := [.inr (.inr (.inl (some (3, 0))))]) (m' := m3) (o := some ((0 < 1))) rfl (show (0 < 1) from by omega) ?_
    refine ww_call (vs := [.inr (.inr (.inl (some (3, 0))))]) (r := []) (p := 0 < 1) rfl rfl rfl rfl (show 0 < 1 from by omega) (zs131 (c := c) (by omega) hGm3) ?_
    rintro _ _ _ ⟨r5, rfl, rfl, rfl, hr6⟩
    show wW (zK sc) zM20 27 [(0, .inr (.inr (.inl (some (0, 0)))))] [.inl r5] _ _ _
    exact ww_rI rfl rfl ⟨zB_mono hGm3 (by omega), hFm3, Or.inl ⟨_, rfl, rfl, Or.elim hr2 (fun z => absurd z.1 (by omega)) (fun z => by omega)⟩⟩
  · show wW (zK sc) zM20 10 [(0, .inr (.inr (.inl (some (0, 0)))))] [] _ _ _
    exact ww_thr rfl rfl (by decide) rfl (Nat.le_of_ble_eq_true rfl) rfl (by omega) ⟨zB_mono hGm3 (by omega), hFm3, Or.inr ⟨_, rfl, rfl, Or.elim hr2 (fun z => ⟨rfl, z.2.1, z.2.2⟩) (fun z => absurd z.1 (by omega))⟩⟩
set_option maxRecDepth 8000 in
/-- Dl.restartReceiver -/
theorem zs19 {sc : xSc} {n : Nat × Nat} {m0 : wm} {c : Int} (hc : 0 ≤ c ∧ c ≤ 1000000)  (hG : zB c m0) : wX (zK sc) 19 [.inr (.inr (.inl (some (0, 0))))] n m0 (wr (fun vv n1 m1 => vv = none ∧ n = n1 ∧ zB c m1 ∧ zfr (fun k i j => (k = 22) ∨ (k = 23) ∨ (k = 24) ∨ (k = 25)) m0 m1 ∧ True)) := by
  refine wX_of (N := zM19) rfl (Nat.le_of_ble_eq_true rfl) ?_
  show wW (zK sc) zM19 0 [(0, .inr (.inr (.inl (some (0, 0)))))] [] n m0 _
  have hF : zfr (fun k i j => (k = 22) ∨ (k = 23) ∨ (k = 24) ∨ (k = 25)) m0 m0 := zfr_rf
  refine ww_go 2 (pc' := 4) (L' := [(0, .inr (.inr (.inl (some (0, 0)))))]) (st' := [.inr (.inr (.inl (some (19, 0))))]) (m' := m0) (o := some ((0 < 1))) rfl (show (0 < 1) from by omega) ?_
  refine ww_call (vs := [.inr (.inr (.inl (some (19, 0))))]) (r := []) (p := 0 < 1) rfl rfl rfl rfl (show 0 < 1 from by omega) (zs95 (c := c) (by omega) hG) ?_
  rintro _ _ m3 ⟨rfl, rfl, hGm3, hEm3, hr2⟩
  have hFm3 : zfr (fun k i j => (k = 22) ∨ (k = 23) ∨ (k = 24) ∨ (k = 25)) m0 m3 := zfr_tr hF hEm3 (fun k i j z => Or.elim z (fun z => Or.inl z) (fun z => Or.elim z (fun z => Or.inr (Or.inl z)) (fun z => Or.elim z (fun z => Or.inr (Or.inr (Or.inl z))) (fun z => Or.inr (Or.inr (Or.inr (z)))))))
  show wW (zK sc) zM19 7 [(0, .inr (.inr (.inl (some (0, 0)))))] [] _ _ _
  exact ww_rV rfl rfl ⟨rfl, rfl, zB_mono hGm3 (by omega), hFm3, by trivial⟩
set_option maxRecDepth 8000 in
/-- Dl.rule -/
theorem zs21 {sc : xSc} {n : Nat × Nat} {m0 : wm} {c : Int} (hn : n.1 < 2300) (hc : 0 ≤ c ∧ c ≤ 1000000) (x : Int) (y : Int) (b : Int) (hG : zB c m0) (h0 : -2147483648 ≤ x ∧ x ≤ 2147483647 ∧ -2147483648 ≤ y ∧ y ≤ 2147483647 ∧ 0 ≤ b ∧ b ≤ 1) : wX (zK sc) 21 [.inr (.inr (.inl (some (0, 0)))), .inl x, .inl y, .inl b] n m0 (fun o n1 m1 => zB c m1 ∧ zfr (fun k i j => (k = 13) ∨ (k = 14) ∨ (k = 15)) m0 m1 ∧ ((o = .inl none ∧ n = n1 ∧ ((x = 0 ∧ 0 ≤ y ∧ y ≤ 96 ∨ x = 1 ∧ 0 ≤ y ∧ y ≤ 6 ∨ (x = 2 ∨ x = 3) ∧ 0 ≤ y ∧ y ≤ 255))) ∨ (∃ q : Nat, o = .inr q ∧ (n.1 + 1, n.2 + 6) = n1 ∧ (q = 0 ∧ ¬ (x = 0 ∧ 0 ≤ y ∧ y ≤ 96 ∨ x = 1 ∧ 0 ≤ y ∧ y ≤ 6 ∨ (x = 2 ∨ x = 3) ∧ 0 ≤ y ∧ y ≤ 255))))) := by
  refine wX_of (N := zM21) rfl (Nat.le_of_ble_eq_true rfl) ?_
  show wW (zK sc) zM21 0 [(0, .inr (.inr (.inl (some (0, 0))))), (1, .inl x), (2, .inl y), (3, .inl b)] [] n m0 _
  have hF : zfr (fun k i j => (k = 13) ∨ (k = 14) ∨ (k = 15)) m0 m0 := zfr_rf
  refine ww_go 1 (pc' := 1) (L' := [(0, .inr (.inr (.inl (some (0, 0))))), (1, .inl x), (2, .inl y), (3, .inl b)]) (st' := [.inl y]) (m' := m0) (o := none) rfl trivial ?_
  refine ww_if (t := 12) rfl rfl (by omega) (fun (h1 : y < 0) => ?_) (fun (h1 : ¬ (y < 0)) => ?_)
  · show wW (zK sc) zM21 12 [(0, .inr (.inr (.inl (some (0, 0))))), (1, .inl x), (2, .inl y), (3, .inl b)] [] _ _ _
    exact ww_thr rfl rfl (by decide) rfl (Nat.le_of_ble_eq_true rfl) rfl (by omega) ⟨zB_mono hG (by omega), hF, Or.inr ⟨_, rfl, rfl, by omega⟩⟩
  · show wW (zK sc) zM21 4 [(0, .inr (.inr (.inl (some (0, 0))))), (1, .inl x), (2, .inl y), (3, .inl b)] [] _ _ _
    refine ww_go 2 (pc' := 6) (L' := [(0, .inr (.inr (.inl (some (0, 0))))), (1, .inl x), (2, .inl y), (3, .inl b)]) (st' := [.inl x, .inl y]) (m' := m0) (o := none) rfl trivial ?_
    refine ww_call (vs := [.inl x]) (r := [.inl y]) (p := True) rfl rfl rfl rfl trivial (zs121 x (by omega)) ?_
    rintro _ _ _ ⟨r2, rfl, rfl, rfl, hr3⟩
    show wW (zK sc) zM21 9 [(0, .inr (.inr (.inl (some (0, 0))))), (1, .inl x), (2, .inl y), (3, .inl b)] [.inl r2, .inl y] _ _ _
    refine ww_ic (t := 22) rfl rfl (by omega) (fun (h4 : y ≤ r2) => ?_) (fun (h4 : ¬ (y ≤ r2)) => ?_)
    · show wW (zK sc) zM21 22 [(0, .inr (.inr (.inl (some (0, 0))))), (1, .inl x), (2, .inl y), (3, .inl b)] [] _ _ _
      refine ww_go 5 (pc' := 29) (L' := [(0, .inr (.inr (.inl (some (0, 0))))), (1, .inl x), (2, .inl y), (3, .inl b)]) (st' := [.inl b, .inl y, .inl x, .inr (.inr (.inl (some (13, 0))))]) (m' := m0) (o := some ((0 < 1))) rfl (show (0 < 1) from by omega) ?_
      refine ww_call (vs := [.inr (.inr (.inl (some (13, 0)))), .inl x, .inl y, .inl b]) (r := []) (p := 0 < 1) rfl rfl rfl rfl (show 0 < 1 from by omega) (zs124 (c := c) (by omega) x y b hG (by omega)) ?_
      rintro _ _ m7 ⟨rfl, rfl, hGm7, hEm7, hr6⟩
      have hFm7 : zfr (fun k i j => (k = 13) ∨ (k = 14) ∨ (k = 15)) m0 m7 := zfr_tr hF hEm7 (fun k i j z => Or.elim z (fun z => Or.inl z) (fun z => Or.elim z (fun z => Or.inr (Or.inl z)) (fun z => Or.inr (Or.inr (z)))))
      show wW (zK sc) zM21 32 [(0, .inr (.inr (.inl (some (0, 0))))), (1, .inl x), (2, .inl y), (3, .inl b)] [] _ _ _
      exact ww_rV rfl rfl ⟨zB_mono hGm7 (by omega), hFm7, Or.inl ⟨rfl, rfl, by omega⟩⟩
    · show wW (zK sc) zM21 12 [(0, .inr (.inr (.inl (some (0, 0))))), (1, .inl x), (2, .inl y), (3, .inl b)] [] _ _ _
      exact ww_thr rfl rfl (by decide) rfl (Nat.le_of_ble_eq_true rfl) rfl (by omega) ⟨zB_mono hG (by omega), hF, Or.inr ⟨_, rfl, rfl, by omega⟩⟩
set_option maxRecDepth 8000 in
/-- Dl.have -/
theorem zs9 {sc : xSc} {n : Nat × Nat} {m0 : wm} {c : Int} (hn : n.1 < 2300) (hc : 0 ≤ c ∧ c ≤ 1000000) (x : Int) (y : Int) (hG : zB c m0) (h0 : -2147483648 ≤ x ∧ x ≤ 2147483647 ∧ -2147483648 ≤ y ∧ y ≤ 2147483647) : wX (zK sc) 9 [.inr (.inr (.inl (some (0, 0)))), .inl x, .inl y] n m0 (fun o n1 m1 => zB c m1 ∧ zfr (fun k i j => False) m0 m1 ∧ ((∃ r : Int, o = .inl (some (.inl r)) ∧ n = n1 ∧ (0 ≤ r ∧ r ≤ 5)) ∨ (∃ q : Nat, o = .inr q ∧ (n.1 + 1, n.2 + 6) = n1 ∧ (q = 0)))) := by
  refine wX_of (N := zM9) rfl (Nat.le_of_ble_eq_true rfl) ?_
  show wW (zK sc) zM9 0 [(0, .inr (.inr (.inl (some (0, 0))))), (1, .inl x), (2, .inl y)] [] n m0 _
  have hF : zfr (fun k i j => False) m0 m0 := zfr_rf
  refine ww_go 2 (pc' := 2) (L' := [(0, .inr (.inr (.inl (some (0, 0))))), (1, .inl x), (2, .inl y)]) (st' := [.inl y, .inl x]) (m' := m0) (o := none) rfl trivial ?_
  refine ww_callT (vs := [.inl x, .inl y]) (r := []) (p := True) rfl rfl rfl rfl trivial (fun h => h.elim (fun z => Bool.noConfusion (show false = true from z)) (fun z => Bool.noConfusion (show true = false from z))) rfl (zs4 (c := c) hn (by omega) x y hG (by omega)) (fun vq nq m1 hq => ?_) (fun kq nq m1 hq => ?_)
  · obtain ⟨hGm1, hEm1, hq⟩ := hq
    rcases hq with ⟨hv, rfl, hr2⟩ | ⟨q9, hv, _⟩
    · obtain rfl := Sum.inl.inj hv
      have hFm1 : zfr (fun k i j => False) m0 m1 := zfr_tr hF hEm1 (fun k i j z => False.elim z)
      show wW (zK sc) zM9 5 [(0, .inr (.inr (.inl (some (0, 0))))), (1, .inl x), (2, .inl y)] [] _ _ _
      refine ww_go 4 (pc' := 11) (L' := [(0, .inr (.inr (.inl (some (0, 0))))), (1, .inl x), (2, .inl y)]) (st' := [.inl y, .inl x, .inr (.inr (.inl (some (19, 0))))]) (m' := m1) (o := some ((0 < 1))) rfl (show (0 < 1) from by omega) ?_
      refine ww_call (vs := [.inr (.inr (.inl (some (19, 0)))), .inl x, .inl y]) (r := []) (p := 0 < 1) rfl rfl rfl rfl (show 0 < 1 from by omega) (zs102 (c := c) (by omega) x y hGm1 (by omega)) ?_
      rintro _ _ _ ⟨r4, rfl, rfl, rfl, hr5⟩
      show wW (zK sc) zM9 14 [(0, .inr (.inr (.inl (some (0, 0))))), (1, .inl x), (2, .inl y)] [.inl r4] _ _ _
      exact ww_rI rfl rfl ⟨zB_mono hGm1 (by omega), hFm1, Or.inl ⟨_, rfl, rfl, by omega⟩⟩
    · cases hv
  · obtain ⟨hGm1, hEm1, hq⟩ := hq
    rcases hq with ⟨hv, _⟩ | ⟨q9, hv, rfl, hr2⟩
    · cases hv
    · obtain rfl := Sum.inr.inj hv
      have hFm1 : zfr (fun k i j => False) m0 m1 := zfr_tr hF hEm1 (fun k i j z => False.elim z)
      exact ⟨zB_mono hGm1 (by omega), hFm1, Or.inr ⟨_, rfl, rfl, by omega⟩⟩
set_option maxRecDepth 8000 in
/-- Dl.rank -/
theorem zs15 {sc : xSc} {n : Nat × Nat} {m0 : wm} {c : Int} (hn : n.1 < 2300) (hc : 0 ≤ c ∧ c ≤ 1000000) (x : Int) (y : Int) (z : Int) (b : Int) (hG : zB c m0) (h0 : -2147483648 ≤ x ∧ x ≤ 2147483647 ∧ -2147483648 ≤ y ∧ y ≤ 2147483647 ∧ -2147483648 ≤ z ∧ z ≤ 2147483647 ∧ -2147483648 ≤ b ∧ b ≤ 2147483647) : wX (zK sc) 15 [.inr (.inr (.inl (some (0, 0)))), .inl x, .inl y, .inl z, .inl b] n m0 (fun o n1 m1 => zB c m1 ∧ zfr (fun k i j => False) m0 m1 ∧ ((∃ r : Int, o = .inl (some (.inl r)) ∧ n = n1 ∧ (0 ≤ r ∧ r ≤ 24)) ∨ (∃ q : Nat, o = .inr q ∧ (n.1 + 1, n.2 + 6) = n1 ∧ (q = 0)))) := by
  refine wX_of (N := zM15) rfl (Nat.le_of_ble_eq_true rfl) ?_
  show wW (zK sc) zM15 0 [(0, .inr (.inr (.inl (some (0, 0))))), (1, .inl x), (2, .inl y), (3, .inl z), (4, .inl b)] [] n m0 _
  have hF : zfr (fun k i j => False) m0 m0 := zfr_rf
  refine ww_go 2 (pc' := 2) (L' := [(0, .inr (.inr (.inl (some (0, 0))))), (1, .inl x), (2, .inl y), (3, .inl z), (4, .inl b)]) (st' := [.inl y, .inl x]) (m' := m0) (o := none) rfl trivial ?_
  refine ww_callT (vs := [.inl x, .inl y]) (r := []) (p := True) rfl rfl rfl rfl trivial (fun h => h.elim (fun z => Bool.noConfusion (show false = true from z)) (fun z => Bool.noConfusion (show true = false from z))) rfl (zs4 (c := c) hn (by omega) x y hG (by omega)) (fun vq nq m1 hq => ?_) (fun kq nq m1 hq => ?_)
  · obtain ⟨hGm1, hEm1, hq⟩ := hq
    rcases hq with ⟨hv, rfl, hr2⟩ | ⟨q9, hv, _⟩
    · obtain rfl := Sum.inl.inj hv
      have hFm1 : zfr (fun k i j => False) m0 m1 := zfr_tr hF hEm1 (fun k i j z => False.elim z)
      show wW (zK sc) zM15 5 [(0, .inr (.inr (.inl (some (0, 0))))), (1, .inl x), (2, .inl y), (3, .inl z), (4, .inl b)] [] _ _ _
      refine ww_go 1 (pc' := 6) (L' := [(0, .inr (.inr (.inl (some (0, 0))))), (1, .inl x), (2, .inl y), (3, .inl z), (4, .inl b)]) (st' := [.inl z]) (m' := m1) (o := none) rfl trivial ?_
      refine ww_if (t := 26) rfl rfl (by omega) (fun (h4 : z < 0) => ?_) (fun (h4 : ¬ (z < 0)) => ?_)
      · show wW (zK sc) zM15 26 [(0, .inr (.inr (.inl (some (0, 0))))), (1, .inl x), (2, .inl y), (3, .inl z), (4, .inl b)] [] _ _ _
        exact ww_thr rfl rfl (by decide) rfl (Nat.le_of_ble_eq_true rfl) rfl (by omega) ⟨zB_mono hGm1 (by omega), hFm1, Or.inr ⟨_, rfl, rfl, by omega⟩⟩
      · show wW (zK sc) zM15 9 [(0, .inr (.inr (.inl (some (0, 0))))), (1, .inl x), (2, .inl y), (3, .inl z), (4, .inl b)] [] _ _ _
        refine ww_go 2 (pc' := 12) (L' := [(0, .inr (.inr (.inl (some (0, 0))))), (1, .inl x), (2, .inl y), (3, .inl z), (4, .inl b)]) (st' := [.inl 7, .inl z]) (m' := m1) (o := none) rfl trivial ?_
        refine ww_ic (t := 26) rfl rfl (by omega) (fun (h5 : 7 ≤ z) => ?_) (fun (h5 : ¬ (7 ≤ z)) => ?_)
        · show wW (zK sc) zM15 26 [(0, .inr (.inr (.inl (some (0, 0))))), (1, .inl x), (2, .inl y), (3, .inl z), (4, .inl b)] [] _ _ _
          exact ww_thr rfl rfl (by decide) rfl (Nat.le_of_ble_eq_true rfl) rfl (by omega) ⟨zB_mono hGm1 (by omega), hFm1, Or.inr ⟨_, rfl, rfl, by omega⟩⟩
        · show wW (zK sc) zM15 15 [(0, .inr (.inr (.inl (some (0, 0))))), (1, .inl x), (2, .inl y), (3, .inl z), (4, .inl b)] [] _ _ _
          refine ww_go 1 (pc' := 17) (L' := [(0, .inr (.inr (.inl (some (0, 0))))), (1, .inl x), (2, .inl y), (3, .inl z), (4, .inl b)]) (st' := [.inl b]) (m' := m1) (o := none) rfl trivial ?_
          refine ww_if (t := 26) rfl rfl (by omega) (fun (h6 : b < 0) => ?_) (fun (h6 : ¬ (b < 0)) => ?_)
          · show wW (zK sc) zM15 26 [(0, .inr (.inr (.inl (some (0, 0))))), (1, .inl x), (2, .inl y), (3, .inl z), (4, .inl b)] [] _ _ _
            exact ww_thr rfl rfl (by decide) rfl (Nat.le_of_ble_eq_true rfl) rfl (by omega) ⟨zB_mono hGm1 (by omega), hFm1, Or.inr ⟨_, rfl, rfl, by omega⟩⟩
          · show wW (zK sc) zM15 20 [(0, .inr (.inr (.inl (some (0, 0))))), (1, .inl x), (2, .inl y), (3, .inl z), (4, .inl b)] [] _ _ _
            refine ww_go 2 (pc' := 23) (L' := [(0, .inr (.inr (.inl (some (0, 0))))), (1, .inl x), (2, .inl y), (3, .inl z), (4, .inl b)]) (st' := [.inl 2, .inl b]) (m' := m1) (o := none) rfl trivial ?_
            refine ww_ic (t := 36) rfl rfl (by omega) (fun (h7 : b < 2) => ?_) (fun (h7 : ¬ (b < 2)) => ?_)
            · show wW (zK sc) zM15 36 [(0, .inr (.inr (.inl (some (0, 0))))), (1, .inl x), (2, .inl y), (3, .inl z), (4, .inl b)] [] _ _ _
              refine ww_go 6 (pc' := 45) (L' := [(0, .inr (.inr (.inl (some (0, 0))))), (1, .inl x), (2, .inl y), (3, .inl z), (4, .inl b)]) (st' := [.inl b, .inl z, .inl y, .inl x, .inr (.inr (.inl (some (19, 0))))]) (m' := m1) (o := some ((0 < 1))) rfl (show (0 < 1) from by omega) ?_
              refine ww_call (vs := [.inr (.inr (.inl (some (19, 0)))), .inl x, .inl y, .inl z, .inl b]) (r := []) (p := 0 < 1) rfl rfl rfl rfl (show 0 < 1 from by omega) (zs100 (c := c) (by omega) x y z b hGm1 (by omega)) ?_
              rintro _ _ _ ⟨r8, rfl, rfl, rfl, hr9⟩
              show wW (zK sc) zM15 48 [(0, .inr (.inr (.inl (some (0, 0))))), (1, .inl x), (2, .inl y), (3, .inl z), (4, .inl b)] [.inl r8] _ _ _
              exact ww_rI rfl rfl ⟨zB_mono hGm1 (by omega), hFm1, Or.inl ⟨_, rfl, rfl, by omega⟩⟩
            · show wW (zK sc) zM15 26 [(0, .inr (.inr (.inl (some (0, 0))))), (1, .inl x), (2, .inl y), (3, .inl z), (4, .inl b)] [] _ _ _
              exact ww_thr rfl rfl (by decide) rfl (Nat.le_of_ble_eq_true rfl) rfl (by omega) ⟨zB_mono hGm1 (by omega), hFm1, Or.inr ⟨_, rfl, rfl, by omega⟩⟩
    · cases hv
  · obtain ⟨hGm1, hEm1, hq⟩ := hq
    rcases hq with ⟨hv, _⟩ | ⟨q9, hv, rfl, hr2⟩
    · cases hv
    · obtain rfl := Sum.inr.inj hv
      have hFm1 : zfr (fun k i j => False) m0 m1 := zfr_tr hF hEm1 (fun k i j z => False.elim z)
      exact ⟨zB_mono hGm1 (by omega), hFm1, Or.inr ⟨_, rfl, rfl, by omega⟩⟩
set_option maxRecDepth 8000 in
/-- Dl.release -/
theorem zs16 {sc : xSc} {n : Nat × Nat} {m0 : wm} {c : Int} (hn : n.1 < 2300) (hc : 0 ≤ c ∧ c ≤ 980000) (x : Int) (hG : zB c m0) (h0 : -2147483648 ≤ x ∧ x ≤ 2147483647) : wX (zK sc) 16 [.inr (.inr (.inl (some (0, 0)))), .inl x] n m0 (fun o n1 m1 => zB (c + 1) m1 ∧ zfr (fun k i j => (k = 22) ∨ (k = 23) ∨ (k = 24) ∨ (k = 25) ∨ (k = 1 ∧ 101 ≤ i ∧ i < 171 ∧ j = 1) ∨ (k = 2 ∧ 101 ≤ i ∧ i < 171) ∨ (26 ≤ k ∧ k ≤ 33 ∧ i < 10) ∨ (k = 1 ∧ i = 2 ∧ j = 1) ∨ (k = 2 ∧ i = 2) ∨ (k = 16) ∨ (k = 17) ∨ (k = 18)) m0 m1 ∧ ((∃ r : Int, o = .inl (some (.inl r)) ∧ n = n1 ∧ (0 ≤ r ∧ r ≤ 65535)) ∨ (∃ q : Nat, o = .inr q ∧ (n.1 + 1, n.2 + 6) = n1 ∧ (q = 0)))) := by
  refine wX_of (N := zM16) rfl (Nat.le_of_ble_eq_true rfl) ?_
  show wW (zK sc) zM16 0 [(0, .inr (.inr (.inl (some (0, 0))))), (1, .inl x)] [] n m0 _
  have hF : zfr (fun k i j => (k = 22) ∨ (k = 23) ∨ (k = 24) ∨ (k = 25) ∨ (k = 1 ∧ 101 ≤ i ∧ i < 171 ∧ j = 1) ∨ (k = 2 ∧ 101 ≤ i ∧ i < 171) ∨ (26 ≤ k ∧ k ≤ 33 ∧ i < 10) ∨ (k = 1 ∧ i = 2 ∧ j = 1) ∨ (k = 2 ∧ i = 2) ∨ (k = 16) ∨ (k = 17) ∨ (k = 18)) m0 m0 := zfr_rf
  refine ww_go 1 (pc' := 1) (L' := [(0, .inr (.inr (.inl (some (0, 0))))), (1, .inl x)]) (st' := [.inl x]) (m' := m0) (o := none) rfl trivial ?_
  refine ww_callT (vs := [.inl x]) (r := []) (p := True) rfl rfl rfl rfl trivial (fun h => h.elim (fun z => Bool.noConfusion (show false = true from z)) (fun z => Bool.noConfusion (show true = false from z))) rfl (zs2 (c := c) hn (by omega) x hG (by omega)) (fun vq nq m1 hq => ?_) (fun kq nq m1 hq => ?_)
  · obtain ⟨hGm1, hEm1, hq⟩ := hq
    rcases hq with ⟨hv, rfl, hr2⟩ | ⟨q9, hv, _⟩
    · obtain rfl := Sum.inl.inj hv
      have hFm1 : zfr (fun k i j => (k = 22) ∨ (k = 23) ∨ (k = 24) ∨ (k = 25) ∨ (k = 1 ∧ 101 ≤ i ∧ i < 171 ∧ j = 1) ∨ (k = 2 ∧ 101 ≤ i ∧ i < 171) ∨ (26 ≤ k ∧ k ≤ 33 ∧ i < 10) ∨ (k = 1 ∧ i = 2 ∧ j = 1) ∨ (k = 2 ∧ i = 2) ∨ (k = 16) ∨ (k = 17) ∨ (k = 18)) m0 m1 := zfr_tr hF hEm1 (fun k i j z => False.elim z)
      show wW (zK sc) zM16 4 [(0, .inr (.inr (.inl (some (0, 0))))), (1, .inl x)] [] _ _ _
      refine ww_go 3 (pc' := 9) (L' := [(0, .inr (.inr (.inl (some (0, 0))))), (1, .inl x)]) (st' := [.inl x, .inr (.inr (.inl (some (19, 0))))]) (m' := m1) (o := some ((0 < 1))) rfl (show (0 < 1) from by omega) ?_
      refine ww_call (vs := [.inr (.inr (.inl (some (19, 0)))), .inl x]) (r := []) (p := 0 < 1) rfl rfl rfl rfl (show 0 < 1 from by omega) (zs91 (c := c) (by omega) x hGm1 (by omega)) ?_
      rintro _ _ m6 ⟨r4, rfl, rfl, hGm6, hEm6, hr5⟩
      have hFm6 : zfr (fun k i j => (k = 22) ∨ (k = 23) ∨ (k = 24) ∨ (k = 25) ∨ (k = 1 ∧ 101 ≤ i ∧ i < 171 ∧ j = 1) ∨ (k = 2 ∧ 101 ≤ i ∧ i < 171) ∨ (26 ≤ k ∧ k ≤ 33 ∧ i < 10) ∨ (k = 1 ∧ i = 2 ∧ j = 1) ∨ (k = 2 ∧ i = 2) ∨ (k = 16) ∨ (k = 17) ∨ (k = 18)) m0 m6 := zfr_tr hFm1 hEm6 (fun k i j z => Or.elim z (fun z => Or.inl z) (fun z => Or.elim z (fun z => Or.inr (Or.inl z)) (fun z => Or.elim z (fun z => Or.inr (Or.inr (Or.inl z))) (fun z => Or.elim z (fun z => Or.inr (Or.inr (Or.inr (Or.inl z)))) (fun z => Or.elim z (fun z => Or.inr (Or.inr (Or.inr (Or.inr (Or.inl z))))) (fun z => Or.elim z (fun z => Or.inr (Or.inr (Or.inr (Or.inr (Or.inr (Or.inl z)))))) (fun z => Or.elim z (fun z => Or.inr (Or.inr (Or.inr (Or.inr (Or.inr (Or.inr (Or.inl z))))))) (fun z => Or.elim z (fun z => Or.inr (Or.inr (Or.inr (Or.inr (Or.inr (Or.inr (Or.inr (Or.inl z)))))))) (fun z => Or.elim z (fun z => Or.inr (Or.inr (Or.inr (Or.inr (Or.inr (Or.inr (Or.inr (Or.inr (Or.inl z))))))))) (fun z => Or.elim z (fun z => Or.inr (Or.inr (Or.inr (Or.inr (Or.inr (Or.inr (Or.inr (Or.inr (Or.inr (Or.inl z)))))))))) (fun z => Or.elim z (fun z => Or.inr (Or.inr (Or.inr (Or.inr (Or.inr (Or.inr (Or.inr (Or.inr (Or.inr (Or.inr (Or.inl z))))))))))) (fun z => Or.inr (Or.inr (Or.inr (Or.inr (Or.inr (Or.inr (Or.inr (Or.inr (Or.inr (Or.inr (Or.inr (z)))))))))))))))))))))))
      show wW (zK sc) zM16 12 [(0, .inr (.inr (.inl (some (0, 0))))), (1, .inl x)] [.inl r4] _ _ _
      exact ww_rI rfl rfl ⟨zB_mono hGm6 (by omega), hFm6, Or.inl ⟨_, rfl, rfl, by omega⟩⟩
    · cases hv
  · obtain ⟨hGm1, hEm1, hq⟩ := hq
    rcases hq with ⟨hv, _⟩ | ⟨q9, hv, rfl, hr2⟩
    · cases hv
    · obtain rfl := Sum.inr.inj hv
      have hFm1 : zfr (fun k i j => (k = 22) ∨ (k = 23) ∨ (k = 24) ∨ (k = 25) ∨ (k = 1 ∧ 101 ≤ i ∧ i < 171 ∧ j = 1) ∨ (k = 2 ∧ 101 ≤ i ∧ i < 171) ∨ (26 ≤ k ∧ k ≤ 33 ∧ i < 10) ∨ (k = 1 ∧ i = 2 ∧ j = 1) ∨ (k = 2 ∧ i = 2) ∨ (k = 16) ∨ (k = 17) ∨ (k = 18)) m0 m1 := zfr_tr hF hEm1 (fun k i j z => False.elim z)
      exact ⟨zB_mono hGm1 (by omega), hFm1, Or.inr ⟨_, rfl, rfl, by omega⟩⟩
set_option maxRecDepth 8000 in
/-- Dl.released -/
theorem zs17 {sc : xSc} {n : Nat × Nat} {m0 : wm} {c : Int} (hn : n.1 < 2300) (hc : 0 ≤ c ∧ c ≤ 1000000) (x : Int) (hG : zB c m0) (h0 : -2147483648 ≤ x ∧ x ≤ 2147483647) : wX (zK sc) 17 [.inr (.inr (.inl (some (0, 0)))), .inl x] n m0 (fun o n1 m1 => zB c m1 ∧ zfr (fun k i j => False) m0 m1 ∧ ((∃ r : Int, o = .inl (some (.inl r)) ∧ n = n1 ∧ (0 ≤ r ∧ r ≤ 65535)) ∨ (∃ q : Nat, o = .inr q ∧ (n.1 + 1, n.2 + 6) = n1 ∧ (q = 0)))) := by
  refine wX_of (N := zM17) rfl (Nat.le_of_ble_eq_true rfl) ?_
  show wW (zK sc) zM17 0 [(0, .inr (.inr (.inl (some (0, 0))))), (1, .inl x)] [] n m0 _
  have hF : zfr (fun k i j => False) m0 m0 := zfr_rf
  refine ww_go 1 (pc' := 1) (L' := [(0, .inr (.inr (.inl (some (0, 0))))), (1, .inl x)]) (st' := [.inl x]) (m' := m0) (o := none) rfl trivial ?_
  refine ww_callT (vs := [.inl x]) (r := []) (p := True) rfl rfl rfl rfl trivial (fun h => h.elim (fun z => Bool.noConfusion (show false = true from z)) (fun z => Bool.noConfusion (show true = false from z))) rfl (zs2 (c := c) hn (by omega) x hG (by omega)) (fun vq nq m1 hq => ?_) (fun kq nq m1 hq => ?_)
  · obtain ⟨hGm1, hEm1, hq⟩ := hq
    rcases hq with ⟨hv, rfl, hr2⟩ | ⟨q9, hv, _⟩
    · obtain rfl := Sum.inl.inj hv
      have hFm1 : zfr (fun k i j => False) m0 m1 := zfr_tr hF hEm1 (fun k i j z => False.elim z)
      show wW (zK sc) zM17 4 [(0, .inr (.inr (.inl (some (0, 0))))), (1, .inl x)] [] _ _ _
      refine ww_go 3 (pc' := 9) (L' := [(0, .inr (.inr (.inl (some (0, 0))))), (1, .inl x)]) (st' := [.inl x, .inr (.inr (.inl (some (19, 0))))]) (m' := m1) (o := some ((0 < 1))) rfl (show (0 < 1) from by omega) ?_
      refine ww_call (vs := [.inr (.inr (.inl (some (19, 0)))), .inl x]) (r := []) (p := 0 < 1) rfl rfl rfl rfl (show 0 < 1 from by omega) (zs101 (c := c) (by omega) x hGm1 (by omega)) ?_
      rintro _ _ _ ⟨r4, rfl, rfl, rfl, hr5⟩
      show wW (zK sc) zM17 12 [(0, .inr (.inr (.inl (some (0, 0))))), (1, .inl x)] [.inr (.inr (.inl (some (26, r4))))] _ _ _
      refine ww_call (vs := [.inr (.inr (.inl (some (26, r4))))]) (r := []) (p := r4 < 10) rfl rfl rfl rfl (show r4 < 10 from by omega) (zs155 (c := c) (by omega) r4 hGm1 (by omega)) ?_
      rintro _ _ _ ⟨r6, rfl, rfl, rfl, hr7⟩
      show wW (zK sc) zM17 15 [(0, .inr (.inr (.inl (some (0, 0))))), (1, .inl x)] [.inl r6] _ _ _
      exact ww_rI rfl rfl ⟨zB_mono hGm1 (by omega), hFm1, Or.inl ⟨_, rfl, rfl, by omega⟩⟩
    · cases hv
  · obtain ⟨hGm1, hEm1, hq⟩ := hq
    rcases hq with ⟨hv, _⟩ | ⟨q9, hv, rfl, hr2⟩
    · cases hv
    · obtain rfl := Sum.inr.inj hv
      have hFm1 : zfr (fun k i j => False) m0 m1 := zfr_tr hF hEm1 (fun k i j z => False.elim z)
      exact ⟨zB_mono hGm1 (by omega), hFm1, Or.inr ⟨_, rfl, rfl, by omega⟩⟩
set_option maxRecDepth 8000 in
/-- Dl.file -/
theorem zs8 {sc : xSc} {n : Nat × Nat} {m0 : wm} {c : Int} (hn : n.1 < 2300) (hc : 0 ≤ c ∧ c ≤ 1000000) (x : Int) (y : Int) (z : Int) (b : Int) (hG : zB c m0) (h0 : -2147483648 ≤ x ∧ x ≤ 2147483647 ∧ -2147483648 ≤ y ∧ y ≤ 2147483647 ∧ -2147483648 ≤ z ∧ z ≤ 2147483647 ∧ 0 ≤ b ∧ b ≤ 1) : wX (zK sc) 8 [.inr (.inr (.inl (some (0, 0)))), .inl x, .inl y, .inl z, .inl b] n m0 (fun o n1 m1 => zB c m1 ∧ zfr (fun k i j => False) m0 m1 ∧ ((∃ r : Int, o = .inl (some (.inl r)) ∧ n = n1 ∧ (-2147483648 ≤ r ∧ r ≤ 2147483647)) ∨ (∃ q : Nat, o = .inr q ∧ (n.1 + 1, n.2 + 6) = n1 ∧ (q = 0 ∨ q = 2)))) := by
  refine wX_of (N := zM8) rfl (Nat.le_of_ble_eq_true rfl) ?_
  show wW (zK sc) zM8 0 [(0, .inr (.inr (.inl (some (0, 0))))), (1, .inl x), (2, .inl y), (3, .inl z), (4, .inl b)] [] n m0 _
  have hF : zfr (fun k i j => False) m0 m0 := zfr_rf
  refine ww_go 1 (pc' := 1) (L' := [(0, .inr (.inr (.inl (some (0, 0))))), (1, .inl x), (2, .inl y), (3, .inl z), (4, .inl b)]) (st' := [.inl x]) (m' := m0) (o := none) rfl trivial ?_
  refine ww_callT (vs := [.inl x]) (r := []) (p := True) rfl rfl rfl rfl trivial (fun h => h.elim (fun z => Bool.noConfusion (show false = true from z)) (fun z => Bool.noConfusion (show true = false from z))) rfl (zs2 (c := c) hn (by omega) x hG (by omega)) (fun vq nq m1 hq => ?_) (fun kq nq m1 hq => ?_)
  · obtain ⟨hGm1, hEm1, hq⟩ := hq
    rcases hq with ⟨hv, rfl, hr2⟩ | ⟨q9, hv, _⟩
    · obtain rfl := Sum.inl.inj hv
      have hFm1 : zfr (fun k i j => False) m0 m1 := zfr_tr hF hEm1 (fun k i j z => False.elim z)
      show wW (zK sc) zM8 4 [(0, .inr (.inr (.inl (some (0, 0))))), (1, .inl x), (2, .inl y), (3, .inl z), (4, .inl b)] [] _ _ _
      refine ww_go 3 (pc' := 9) (L' := [(0, .inr (.inr (.inl (some (0, 0))))), (1, .inl x), (2, .inl y), (3, .inl z), (4, .inl b)]) (st' := [.inl x, .inr (.inr (.inl (some (19, 0))))]) (m' := m1) (o := some ((0 < 1))) rfl (show (0 < 1) from by omega) ?_
      refine ww_call (vs := [.inr (.inr (.inl (some (19, 0)))), .inl x]) (r := []) (p := 0 < 1) rfl rfl rfl rfl (show 0 < 1 from by omega) (zs101 (c := c) (by omega) x hGm1 (by omega)) ?_
      rintro _ _ _ ⟨r4, rfl, rfl, rfl, hr5⟩
      show wW (zK sc) zM8 12 [(0, .inr (.inr (.inl (some (0, 0))))), (1, .inl x), (2, .inl y), (3, .inl z), (4, .inl b)] [.inr (.inr (.inl (some (26, r4))))] _ _ _
      refine ww_go 2 (pc' := 15) (L' := [(5, .inr (.inr (.inl (some (26, r4))))), (0, .inr (.inr (.inl (some (0, 0))))), (1, .inl x), (2, .inl y), (3, .inl z), (4, .inl b)]) (st' := [.inl y]) (m' := m1) (o := none) rfl trivial ?_
      refine ww_if (t := 27) rfl rfl (by omega) (fun (h6 : y < 0) => ?_) (fun (h6 : ¬ (y < 0)) => ?_)
      · show wW (zK sc) zM8 27 [(5, .inr (.inr (.inl (some (26, r4))))), (0, .inr (.inr (.inl (some (0, 0))))), (1, .inl x), (2, .inl y), (3, .inl z), (4, .inl b)] [] _ _ _
        exact ww_thr rfl rfl (by decide) rfl (Nat.le_of_ble_eq_true rfl) rfl (by omega) ⟨zB_mono hGm1 (by omega), hFm1, Or.inr ⟨_, rfl, rfl, by omega⟩⟩
      · show wW (zK sc) zM8 18 [(5, .inr (.inr (.inl (some (26, r4))))), (0, .inr (.inr (.inl (some (0, 0))))), (1, .inl x), (2, .inl y), (3, .inl z), (4, .inl b)] [] _ _ _
        refine ww_go 2 (pc' := 21) (L' := [(5, .inr (.inr (.inl (some (26, r4))))), (0, .inr (.inr (.inl (some (0, 0))))), (1, .inl x), (2, .inl y), (3, .inl z), (4, .inl b)]) (st' := [.inr (.inr (.inl (some (26, r4)))), .inl y]) (m' := m1) (o := none) rfl trivial ?_
        refine ww_call (vs := [.inr (.inr (.inl (some (26, r4))))]) (r := [.inl y]) (p := r4 < 10) rfl rfl rfl rfl (show r4 < 10 from by omega) (zs141 (c := c) (by omega) r4 hGm1 (by omega)) ?_
        rintro _ _ _ ⟨r7, rfl, rfl, rfl, hr8⟩
        show wW (zK sc) zM8 24 [(5, .inr (.inr (.inl (some (26, r4))))), (0, .inr (.inr (.inl (some (0, 0))))), (1, .inl x), (2, .inl y), (3, .inl z), (4, .inl b)] [.inl r7, .inl y] _ _ _
        refine ww_ic (t := 37) rfl rfl (by omega) (fun (h9 : y < r7) => ?_) (fun (h9 : ¬ (y < r7)) => ?_)
        · show wW (zK sc) zM8 37 [(5, .inr (.inr (.inl (some (26, r4))))), (0, .inr (.inr (.inl (some (0, 0))))), (1, .inl x), (2, .inl y), (3, .inl z), (4, .inl b)] [] _ _ _
          refine ww_go 1 (pc' := 39) (L' := [(5, .inr (.inr (.inl (some (26, r4))))), (0, .inr (.inr (.inl (some (0, 0))))), (1, .inl x), (2, .inl y), (3, .inl z), (4, .inl b)]) (st' := [.inl b]) (m' := m1) (o := none) rfl trivial ?_
          refine ww_if (t := 51) rfl rfl (by omega) (fun (h10 : b = 0) => ?_) (fun (h10 : ¬ (b = 0)) => ?_)
          · show wW (zK sc) zM8 51 [(5, .inr (.inr (.inl (some (26, r4))))), (0, .inr (.inr (.inl (some (0, 0))))), (1, .inl x), (2, .inl y), (3, .inl z), (4, .inl b)] [] _ _ _
            refine ww_go 2 (pc' := 54) (L' := [(5, .inr (.inr (.inl (some (26, r4))))), (0, .inr (.inr (.inl (some (0, 0))))), (1, .inl x), (2, .inl y), (3, .inl z), (4, .inl b)]) (st' := [.inl y, .inr (.inr (.inl (some (26, r4))))]) (m' := m1) (o := none) rfl trivial ?_
            refine ww_call (vs := [.inr (.inr (.inl (some (26, r4)))), .inl y]) (r := []) (p := r4 < 10) rfl rfl rfl rfl (show r4 < 10 from by omega) (zs154 (c := c) (by omega) y r4 hGm1 (by omega)) ?_
            rintro _ _ _ ⟨r11, rfl, rfl, rfl, hr12⟩
            show wW (zK sc) zM8 57 [(5, .inr (.inr (.inl (some (26, r4))))), (0, .inr (.inr (.inl (some (0, 0))))), (1, .inl x), (2, .inl y), (3, .inl z), (4, .inl b)] [.inl r11] _ _ _
            refine ww_go 3 (pc' := 61) (L' := [(6, .inl r11), (5, .inr (.inr (.inl (some (26, r4))))), (0, .inr (.inr (.inl (some (0, 0))))), (1, .inl x), (2, .inl y), (3, .inl z), (4, .inl b)]) (st' := [.inl ((-1)), .inl z]) (m' := m1) (o := none) rfl trivial ?_
            refine ww_ic (t := 70) rfl rfl (by omega) (fun (h13 : z < (-1)) => ?_) (fun (h13 : ¬ (z < (-1))) => ?_)
            · show wW (zK sc) zM8 70 [(6, .inl r11), (5, .inr (.inr (.inl (some (26, r4))))), (0, .inr (.inr (.inl (some (0, 0))))), (1, .inl x), (2, .inl y), (3, .inl z), (4, .inl b)] [] _ _ _
              exact ww_thr rfl rfl (by decide) rfl (Nat.le_of_ble_eq_true rfl) rfl (by omega) ⟨zB_mono hGm1 (by omega), hFm1, Or.inr ⟨_, rfl, rfl, by omega⟩⟩
            · show wW (zK sc) zM8 64 [(6, .inl r11), (5, .inr (.inr (.inl (some (26, r4))))), (0, .inr (.inr (.inl (some (0, 0))))), (1, .inl x), (2, .inl y), (3, .inl z), (4, .inl b)] [] _ _ _
              refine ww_go 2 (pc' := 67) (L' := [(6, .inl r11), (5, .inr (.inr (.inl (some (26, r4))))), (0, .inr (.inr (.inl (some (0, 0))))), (1, .inl x), (2, .inl y), (3, .inl z), (4, .inl b)]) (st' := [.inl r11, .inl z]) (m' := m1) (o := none) rfl trivial ?_
              refine ww_ic (t := 80) rfl rfl (by omega) (fun (h14 : z < r11) => ?_) (fun (h14 : ¬ (z < r11)) => ?_)
              · show wW (zK sc) zM8 80 [(6, .inl r11), (5, .inr (.inr (.inl (some (26, r4))))), (0, .inr (.inr (.inl (some (0, 0))))), (1, .inl x), (2, .inl y), (3, .inl z), (4, .inl b)] [] _ _ _
                refine ww_go 2 (pc' := 82) (L' := [(6, .inl r11), (5, .inr (.inr (.inl (some (26, r4))))), (0, .inr (.inr (.inl (some (0, 0))))), (1, .inl x), (2, .inl y), (3, .inl z), (4, .inl b)]) (st' := [.inl ((-1)), .inl z]) (m' := m1) (o := none) rfl trivial ?_
                refine ww_ic (t := 88) rfl rfl (by omega) (fun (h15 : z ≠ (-1)) => ?_) (fun (h15 : ¬ (z ≠ (-1))) => ?_)
                · show wW (zK sc) zM8 88 [(6, .inl r11), (5, .inr (.inr (.inl (some (26, r4))))), (0, .inr (.inr (.inl (some (0, 0))))), (1, .inl x), (2, .inl y), (3, .inl z), (4, .inl b)] [] _ _ _
                  refine ww_go 1 (pc' := 90) (L' := [(6, .inl r11), (5, .inr (.inr (.inl (some (26, r4))))), (0, .inr (.inr (.inl (some (0, 0))))), (1, .inl x), (2, .inl y), (3, .inl z), (4, .inl b)]) (st' := [.inl b]) (m' := m1) (o := none) rfl trivial ?_
                  refine ww_if (t := 108) rfl rfl (by omega) (fun (h16 : b = 0) => ?_) (fun (h16 : ¬ (b = 0)) => absurd (show b = 0 from by omega) h16)
                  show wW (zK sc) zM8 108 [(6, .inl r11), (5, .inr (.inr (.inl (some (26, r4))))), (0, .inr (.inr (.inl (some (0, 0))))), (1, .inl x), (2, .inl y), (3, .inl z), (4, .inl b)] [] _ _ _
                  refine ww_go 2 (pc' := 111) (L' := [(6, .inl r11), (5, .inr (.inr (.inl (some (26, r4))))), (0, .inr (.inr (.inl (some (0, 0))))), (1, .inl x), (2, .inl y), (3, .inl z), (4, .inl b)]) (st' := [.inl 0, .inr (.inr (.inl (some (26, r4))))]) (m' := m1) (o := none) rfl trivial ?_
                  refine ww_call (vs := [.inr (.inr (.inl (some (26, r4)))), .inl 0]) (r := []) (p := r4 < 10) rfl rfl rfl rfl (show r4 < 10 from by omega) (zs152 (c := c) (by omega) 0 r4 hGm1 (by omega)) ?_
                  rintro _ _ _ ⟨r17, rfl, rfl, rfl, hr18⟩
                  show wW (zK sc) zM8 114 [(6, .inl r11), (5, .inr (.inr (.inl (some (26, r4))))), (0, .inr (.inr (.inl (some (0, 0))))), (1, .inl x), (2, .inl y), (3, .inl z), (4, .inl b)] [.inr (.inr (.inl (some (1, r17))))] _ _ _
                  refine ww_go 2 (pc' := 117) (L' := [(6, .inl r11), (5, .inr (.inr (.inl (some (26, r4))))), (0, .inr (.inr (.inl (some (0, 0))))), (1, .inl x), (2, .inl y), (3, .inl z), (4, .inl b)]) (st' := [.inl y, .inr (.inr (.inl (some (26, r4)))), .inr (.inr (.inl (some (1, r17))))]) (m' := m1) (o := none) rfl trivial ?_
                  refine ww_call (vs := [.inr (.inr (.inl (some (26, r4)))), .inl y]) (r := [.inr (.inr (.inl (some (1, r17))))]) (p := r4 < 10) rfl rfl rfl rfl (show r4 < 10 from by omega) (zs153 (c := c) (by omega) y r4 hGm1 (by omega)) ?_
                  rintro _ _ _ ⟨r19, rfl, rfl, rfl, hr20⟩
                  show wW (zK sc) zM8 120 [(6, .inl r11), (5, .inr (.inr (.inl (some (26, r4))))), (0, .inr (.inr (.inl (some (0, 0))))), (1, .inl x), (2, .inl y), (3, .inl z), (4, .inl b)] [.inl r19, .inr (.inr (.inl (some (1, r17))))] _ _ _
                  refine ww_go 2 (pc' := 122) (L' := [(6, .inl r11), (5, .inr (.inr (.inl (some (26, r4))))), (0, .inr (.inr (.inl (some (0, 0))))), (1, .inl x), (2, .inl y), (3, .inl z), (4, .inl b)]) (st' := [.inl (r19 + z), .inr (.inr (.inl (some (1, r17))))]) (m' := m1) (o := none) rfl trivial ?_
                  refine ww_call (vs := [.inr (.inr (.inl (some (1, r17)))), .inl (r19 + z)]) (r := []) (p := r17 < 171) rfl rfl rfl rfl (show r17 < 171 from by omega) (zs28 (c := c) (by omega) (r19 + z) r17 hGm1 (by omega)) ?_
                  rintro _ _ _ ⟨r21, rfl, rfl, rfl, hr22⟩
                  show wW (zK sc) zM8 125 [(6, .inl r11), (5, .inr (.inr (.inl (some (26, r4))))), (0, .inr (.inr (.inl (some (0, 0))))), (1, .inl x), (2, .inl y), (3, .inl z), (4, .inl b)] [.inl r21] _ _ _
                  exact ww_rI rfl rfl ⟨zB_mono hGm1 (by omega), hFm1, Or.inl ⟨_, rfl, rfl, by omega⟩⟩
                · show wW (zK sc) zM8 85 [(6, .inl r11), (5, .inr (.inr (.inl (some (26, r4))))), (0, .inr (.inr (.inl (some (0, 0))))), (1, .inl x), (2, .inl y), (3, .inl z), (4, .inl b)] [] _ _ _
                  refine ww_go 1 (pc' := 87) (L' := [(6, .inl r11), (5, .inr (.inr (.inl (some (26, r4))))), (0, .inr (.inr (.inl (some (0, 0))))), (1, .inl x), (2, .inl y), (3, .inl z), (4, .inl b)]) (st' := [.inl r11]) (m' := m1) (o := none) rfl trivial ?_
                  exact ww_rI rfl rfl ⟨zB_mono hGm1 (by omega), hFm1, Or.inl ⟨_, rfl, rfl, by omega⟩⟩
              · show wW (zK sc) zM8 70 [(6, .inl r11), (5, .inr (.inr (.inl (some (26, r4))))), (0, .inr (.inr (.inl (some (0, 0))))), (1, .inl x), (2, .inl y), (3, .inl z), (4, .inl b)] [] _ _ _
                exact ww_thr rfl rfl (by decide) rfl (Nat.le_of_ble_eq_true rfl) rfl (by omega) ⟨zB_mono hGm1 (by omega), hFm1, Or.inr ⟨_, rfl, rfl, by omega⟩⟩
          · show wW (zK sc) zM8 42 [(5, .inr (.inr (.inl (some (26, r4))))), (0, .inr (.inr (.inl (some (0, 0))))), (1, .inl x), (2, .inl y), (3, .inl z), (4, .inl b)] [] _ _ _
            refine ww_go 2 (pc' := 45) (L' := [(5, .inr (.inr (.inl (some (26, r4))))), (0, .inr (.inr (.inl (some (0, 0))))), (1, .inl x), (2, .inl y), (3, .inl z), (4, .inl b)]) (st' := [.inl y, .inr (.inr (.inl (some (26, r4))))]) (m' := m1) (o := none) rfl trivial ?_
            refine ww_call (vs := [.inr (.inr (.inl (some (26, r4)))), .inl y]) (r := []) (p := r4 < 10) rfl rfl rfl rfl (show r4 < 10 from by omega) (zs140 (c := c) (by omega) y r4 hGm1 (by omega)) ?_
            rintro _ _ _ ⟨r23, rfl, rfl, rfl, hr24⟩
            show wW (zK sc) zM8 48 [(5, .inr (.inr (.inl (some (26, r4))))), (0, .inr (.inr (.inl (some (0, 0))))), (1, .inl x), (2, .inl y), (3, .inl z), (4, .inl b)] [.inl r23] _ _ _
            refine ww_go 4 (pc' := 61) (L' := [(6, .inl r23), (5, .inr (.inr (.inl (some (26, r4))))), (0, .inr (.inr (.inl (some (0, 0))))), (1, .inl x), (2, .inl y), (3, .inl z), (4, .inl b)]) (st' := [.inl ((-1)), .inl z]) (m' := m1) (o := none) rfl trivial ?_
            refine ww_ic (t := 70) rfl rfl (by omega) (fun (h25 : z < (-1)) => ?_) (fun (h25 : ¬ (z < (-1))) => ?_)
            · show wW (zK sc) zM8 70 [(6, .inl r23), (5, .inr (.inr (.inl (some (26, r4))))), (0, .inr (.inr (.inl (some (0, 0))))), (1, .inl x), (2, .inl y), (3, .inl z), (4, .inl b)] [] _ _ _
              exact ww_thr rfl rfl (by decide) rfl (Nat.le_of_ble_eq_true rfl) rfl (by omega) ⟨zB_mono hGm1 (by omega), hFm1, Or.inr ⟨_, rfl, rfl, by omega⟩⟩
            · show wW (zK sc) zM8 64 [(6, .inl r23), (5, .inr (.inr (.inl (some (26, r4))))), (0, .inr (.inr (.inl (some (0, 0))))), (1, .inl x), (2, .inl y), (3, .inl z), (4, .inl b)] [] _ _ _
              refine ww_go 2 (pc' := 67) (L' := [(6, .inl r23), (5, .inr (.inr (.inl (some (26, r4))))), (0, .inr (.inr (.inl (some (0, 0))))), (1, .inl x), (2, .inl y), (3, .inl z), (4, .inl b)]) (st' := [.inl r23, .inl z]) (m' := m1) (o := none) rfl trivial ?_
              refine ww_ic (t := 80) rfl rfl (by omega) (fun (h26 : z < r23) => ?_) (fun (h26 : ¬ (z < r23)) => ?_)
              · show wW (zK sc) zM8 80 [(6, .inl r23), (5, .inr (.inr (.inl (some (26, r4))))), (0, .inr (.inr (.inl (some (0, 0))))), (1, .inl x), (2, .inl y), (3, .inl z), (4, .inl b)] [] _ _ _
                refine ww_go 2 (pc' := 82) (L' := [(6, .inl r23), (5, .inr (.inr (.inl (some (26, r4))))), (0, .inr (.inr (.inl (some (0, 0))))), (1, .inl x), (2, .inl y), (3, .inl z), (4, .inl b)]) (st' := [.inl ((-1)), .inl z]) (m' := m1) (o := none) rfl trivial ?_
                refine ww_ic (t := 88) rfl rfl (by omega) (fun (h27 : z ≠ (-1)) => ?_) (fun (h27 : ¬ (z ≠ (-1))) => ?_)
                · show wW (zK sc) zM8 88 [(6, .inl r23), (5, .inr (.inr (.inl (some (26, r4))))), (0, .inr (.inr (.inl (some (0, 0))))), (1, .inl x), (2, .inl y), (3, .inl z), (4, .inl b)] [] _ _ _
                  refine ww_go 1 (pc' := 90) (L' := [(6, .inl r23), (5, .inr (.inr (.inl (some (26, r4))))), (0, .inr (.inr (.inl (some (0, 0))))), (1, .inl x), (2, .inl y), (3, .inl z), (4, .inl b)]) (st' := [.inl b]) (m' := m1) (o := none) rfl trivial ?_
                  refine ww_if (t := 108) rfl rfl (by omega) (fun (h28 : b = 0) => absurd h28 (by omega)) (fun (h28 : ¬ (b = 0)) => ?_)
                  show wW (zK sc) zM8 93 [(6, .inl r23), (5, .inr (.inr (.inl (some (26, r4))))), (0, .inr (.inr (.inl (some (0, 0))))), (1, .inl x), (2, .inl y), (3, .inl z), (4, .inl b)] [] _ _ _
                  refine ww_go 4 (pc' := 98) (L' := [(6, .inl r23), (5, .inr (.inr (.inl (some (26, r4))))), (0, .inr (.inr (.inl (some (0, 0))))), (1, .inl x), (2, .inl y), (3, .inl z), (4, .inl b)]) (st' := [.inl (y + 1), .inr (.inr (.inl (some (26, r4))))]) (m' := m1) (o := none) rfl trivial ?_
                  refine ww_call (vs := [.inr (.inr (.inl (some (26, r4)))), .inl (y + 1)]) (r := []) (p := r4 < 10) rfl rfl rfl rfl (show r4 < 10 from by omega) (zs152 (c := c) (by omega) (y + 1) r4 hGm1 (by omega)) ?_
                  rintro _ _ _ ⟨r29, rfl, rfl, rfl, hr30⟩
                  show wW (zK sc) zM8 101 [(6, .inl r23), (5, .inr (.inr (.inl (some (26, r4))))), (0, .inr (.inr (.inl (some (0, 0))))), (1, .inl x), (2, .inl y), (3, .inl z), (4, .inl b)] [.inr (.inr (.inl (some (1, r29))))] _ _ _
                  refine ww_go 1 (pc' := 102) (L' := [(6, .inl r23), (5, .inr (.inr (.inl (some (26, r4))))), (0, .inr (.inr (.inl (some (0, 0))))), (1, .inl x), (2, .inl y), (3, .inl z), (4, .inl b)]) (st' := [.inl z, .inr (.inr (.inl (some (1, r29))))]) (m' := m1) (o := none) rfl trivial ?_
                  refine ww_call (vs := [.inr (.inr (.inl (some (1, r29)))), .inl z]) (r := []) (p := r29 < 171) rfl rfl rfl rfl (show r29 < 171 from by omega) (zs28 (c := c) (by omega) z r29 hGm1 (by omega)) ?_
                  rintro _ _ _ ⟨r31, rfl, rfl, rfl, hr32⟩
                  show wW (zK sc) zM8 105 [(6, .inl r23), (5, .inr (.inr (.inl (some (26, r4))))), (0, .inr (.inr (.inl (some (0, 0))))), (1, .inl x), (2, .inl y), (3, .inl z), (4, .inl b)] [.inl r31] _ _ _
                  refine ww_go 1 (pc' := 125) (L' := [(6, .inl r23), (5, .inr (.inr (.inl (some (26, r4))))), (0, .inr (.inr (.inl (some (0, 0))))), (1, .inl x), (2, .inl y), (3, .inl z), (4, .inl b)]) (st' := [.inl r31]) (m' := m1) (o := none) rfl trivial ?_
                  exact ww_rI rfl rfl ⟨zB_mono hGm1 (by omega), hFm1, Or.inl ⟨_, rfl, rfl, by omega⟩⟩
                · show wW (zK sc) zM8 85 [(6, .inl r23), (5, .inr (.inr (.inl (some (26, r4))))), (0, .inr (.inr (.inl (some (0, 0))))), (1, .inl x), (2, .inl y), (3, .inl z), (4, .inl b)] [] _ _ _
                  refine ww_go 1 (pc' := 87) (L' := [(6, .inl r23), (5, .inr (.inr (.inl (some (26, r4))))), (0, .inr (.inr (.inl (some (0, 0))))), (1, .inl x), (2, .inl y), (3, .inl z), (4, .inl b)]) (st' := [.inl r23]) (m' := m1) (o := none) rfl trivial ?_
                  exact ww_rI rfl rfl ⟨zB_mono hGm1 (by omega), hFm1, Or.inl ⟨_, rfl, rfl, by omega⟩⟩
              · show wW (zK sc) zM8 70 [(6, .inl r23), (5, .inr (.inr (.inl (some (26, r4))))), (0, .inr (.inr (.inl (some (0, 0))))), (1, .inl x), (2, .inl y), (3, .inl z), (4, .inl b)] [] _ _ _
                exact ww_thr rfl rfl (by decide) rfl (Nat.le_of_ble_eq_true rfl) rfl (by omega) ⟨zB_mono hGm1 (by omega), hFm1, Or.inr ⟨_, rfl, rfl, by omega⟩⟩
        · show wW (zK sc) zM8 27 [(5, .inr (.inr (.inl (some (26, r4))))), (0, .inr (.inr (.inl (some (0, 0))))), (1, .inl x), (2, .inl y), (3, .inl z), (4, .inl b)] [] _ _ _
          exact ww_thr rfl rfl (by decide) rfl (Nat.le_of_ble_eq_true rfl) rfl (by omega) ⟨zB_mono hGm1 (by omega), hFm1, Or.inr ⟨_, rfl, rfl, by omega⟩⟩
    · cases hv
  · obtain ⟨hGm1, hEm1, hq⟩ := hq
    rcases hq with ⟨hv, _⟩ | ⟨q9, hv, rfl, hr2⟩
    · cases hv
    · obtain rfl := Sum.inr.inj hv
      have hFm1 : zfr (fun k i j => False) m0 m1 := zfr_tr hF hEm1 (fun k i j z => False.elim z)
      exact ⟨zB_mono hGm1 (by omega), hFm1, Or.inr ⟨_, rfl, rfl, by omega⟩⟩
set_option maxRecDepth 8000 in
/-- Dl.journal -/
theorem zs13 {sc : xSc} {n : Nat × Nat} {m0 : wm} {c : Int} (hn : n.1 < 2300) (hc : 0 ≤ c ∧ c ≤ 1000000) (x : Int) (y : Int) (hG : zB c m0) (h0 : -2147483648 ≤ x ∧ x ≤ 2147483647 ∧ -2147483648 ≤ y ∧ y ≤ 2147483647) : wX (zK sc) 13 [.inr (.inr (.inl (some (0, 0)))), .inl x, .inl y] n m0 (fun o n1 m1 => zB c m1 ∧ zfr (fun k i j => False) m0 m1 ∧ ((∃ r : Int64, o = .inl (some (.inr (.inl r))) ∧ n = n1 ∧ (True)) ∨ (∃ q : Nat, o = .inr q ∧ (n.1 + 1, n.2 + 6) = n1 ∧ (q = 0 ∨ q = 2)))) := by
  refine wX_of (N := zM13) rfl (Nat.le_of_ble_eq_true rfl) ?_
  show wW (zK sc) zM13 0 [(0, .inr (.inr (.inl (some (0, 0))))), (1, .inl x), (2, .inl y)] [] n m0 _
  have hF : zfr (fun k i j => False) m0 m0 := zfr_rf
  have be : 0 ≤ m0.1 16 0 3 ∧ m0.1 16 0 3 ≤ c := hG.1 16 _ rfl _ _
  refine ww_go 1 (pc' := 1) (L' := [(0, .inr (.inr (.inl (some (0, 0))))), (1, .inl x), (2, .inl y)]) (st' := [.inl y]) (m' := m0) (o := none) rfl trivial ?_
  refine ww_if (t := 9) rfl rfl (by omega) (fun (h1 : y < 0) => ?_) (fun (h1 : ¬ (y < 0)) => ?_)
  · show wW (zK sc) zM13 9 [(0, .inr (.inr (.inl (some (0, 0))))), (1, .inl x), (2, .inl y)] [] _ _ _
    exact ww_thr rfl rfl (by decide) rfl (Nat.le_of_ble_eq_true rfl) rfl (by omega) ⟨zB_mono hG (by omega), hF, Or.inr ⟨_, rfl, rfl, by omega⟩⟩
  · show wW (zK sc) zM13 4 [(0, .inr (.inr (.inl (some (0, 0))))), (1, .inl x), (2, .inl y)] [] _ _ _
    refine ww_go 2 (pc' := 6) (L' := [(0, .inr (.inr (.inl (some (0, 0))))), (1, .inl x), (2, .inl y)]) (st' := [.inl 4, .inl y]) (m' := m0) (o := none) rfl trivial ?_
    refine ww_ic (t := 19) rfl rfl (by omega) (fun (h2 : y ≤ 4) => ?_) (fun (h2 : ¬ (y ≤ 4)) => ?_)
    · show wW (zK sc) zM13 19 [(0, .inr (.inr (.inl (some (0, 0))))), (1, .inl x), (2, .inl y)] [] _ _ _
      refine ww_go 2 (pc' := 21) (L' := [(0, .inr (.inr (.inl (some (0, 0))))), (1, .inl x), (2, .inl y)]) (st' := [.inl ((-1)), .inl x]) (m' := m0) (o := none) rfl trivial ?_
      refine ww_ic (t := 33) rfl rfl (by omega) (fun (h3 : x ≠ (-1)) => ?_) (fun (h3 : ¬ (x ≠ (-1))) => ?_)
      · show wW (zK sc) zM13 33 [(0, .inr (.inr (.inl (some (0, 0))))), (1, .inl x), (2, .inl y)] [] _ _ _
        refine ww_go 3 (pc' := 38) (L' := [(0, .inr (.inr (.inl (some (0, 0))))), (1, .inl x), (2, .inl y)]) (st' := [.inl x, .inr (.inr (.inl (some (16, 0))))]) (m' := m0) (o := some ((0 < 1))) rfl (show (0 < 1) from by omega) ?_
        refine ww_call (vs := [.inr (.inr (.inl (some (16, 0)))), .inl x]) (r := []) (p := 0 < 1) rfl rfl rfl rfl (show 0 < 1 from by omega) (zs68 (c := c) (by omega) x hG (by omega)) ?_
        rintro _ _ _ ⟨r4, rfl, rfl, rfl, hr5⟩
        show wW (zK sc) zM13 41 [(0, .inr (.inr (.inl (some (0, 0))))), (1, .inl x), (2, .inl y)] [.inl r4] _ _ _
        refine ww_if (t := 54) rfl rfl (by omega) (fun (h6 : r4 ≠ 0) => ?_) (fun (h6 : ¬ (r4 ≠ 0)) => ?_)
        · show wW (zK sc) zM13 54 [(0, .inr (.inr (.inl (some (0, 0))))), (1, .inl x), (2, .inl y)] [] _ _ _
          refine ww_go 2 (pc' := 56) (L' := [(0, .inr (.inr (.inl (some (0, 0))))), (1, .inl x), (2, .inl y)]) (st' := [.inl 4, .inl y]) (m' := m0) (o := none) rfl trivial ?_
          refine ww_ic (t := 70) rfl rfl (by omega) (fun (h7 : y ≠ 4) => ?_) (fun (h7 : ¬ (y ≠ 4)) => ?_)
          · show wW (zK sc) zM13 70 [(0, .inr (.inr (.inl (some (0, 0))))), (1, .inl x), (2, .inl y)] [] _ _ _
            refine ww_go 4 (pc' := 76) (L' := [(0, .inr (.inr (.inl (some (0, 0))))), (1, .inl x), (2, .inl y)]) (st' := [.inl y, .inl x, .inr (.inr (.inl (some (16, 0))))]) (m' := m0) (o := some ((0 < 1))) rfl (show (0 < 1) from by omega) ?_
            refine ww_call (vs := [.inr (.inr (.inl (some (16, 0)))), .inl x, .inl y]) (r := []) (p := 0 < 1) rfl rfl rfl rfl (show 0 < 1 from by omega) (zs71 (c := c) (by omega) x y hG (by omega)) ?_
            rintro _ _ _ ⟨r8, rfl, rfl, rfl, hr9⟩
            show wW (zK sc) zM13 79 [(0, .inr (.inr (.inl (some (0, 0))))), (1, .inl x), (2, .inl y)] [.inl r8] _ _ _
            refine ww_go 1 (pc' := 80) (L' := [(0, .inr (.inr (.inl (some (0, 0))))), (1, .inl x), (2, .inl y)]) (st' := [.inr (.inl (wi2l r8))]) (m' := m0) (o := none) rfl trivial ?_
            exact ww_rL rfl rfl ⟨zB_mono hG (by omega), hF, Or.inl ⟨_, rfl, rfl, by trivial⟩⟩
          · show wW (zK sc) zM13 59 [(0, .inr (.inr (.inl (some (0, 0))))), (1, .inl x), (2, .inl y)] [] _ _ _
            refine ww_go 3 (pc' := 64) (L' := [(0, .inr (.inr (.inl (some (0, 0))))), (1, .inl x), (2, .inl y)]) (st' := [.inl x, .inr (.inr (.inl (some (16, 0))))]) (m' := m0) (o := some ((0 < 1))) rfl (show (0 < 1) from by omega) ?_
            refine ww_call (vs := [.inr (.inr (.inl (some (16, 0)))), .inl x]) (r := []) (p := 0 < 1) rfl rfl rfl rfl (show 0 < 1 from by omega) (zs69 (c := c) (by omega) x hG (by omega)) ?_
            rintro _ _ _ ⟨r10, rfl, rfl, rfl, hr11⟩
            show wW (zK sc) zM13 67 [(0, .inr (.inr (.inl (some (0, 0))))), (1, .inl x), (2, .inl y)] [.inr (.inl r10)] _ _ _
            refine ww_go 1 (pc' := 80) (L' := [(0, .inr (.inr (.inl (some (0, 0))))), (1, .inl x), (2, .inl y)]) (st' := [.inr (.inl r10)]) (m' := m0) (o := none) rfl trivial ?_
            exact ww_rL rfl rfl ⟨zB_mono hG (by omega), hF, Or.inl ⟨_, rfl, rfl, by trivial⟩⟩
        · show wW (zK sc) zM13 44 [(0, .inr (.inr (.inl (some (0, 0))))), (1, .inl x), (2, .inl y)] [] _ _ _
          exact ww_thr rfl rfl (by decide) rfl (Nat.le_of_ble_eq_true rfl) rfl (by omega) ⟨zB_mono hG (by omega), hF, Or.inr ⟨_, rfl, rfl, by omega⟩⟩
      · show wW (zK sc) zM13 24 [(0, .inr (.inr (.inl (some (0, 0))))), (1, .inl x), (2, .inl y)] [] _ _ _
        refine ww_go 2 (pc' := 28) (L' := [(0, .inr (.inr (.inl (some (0, 0))))), (1, .inl x), (2, .inl y)]) (st' := [.inr (.inr (.inl (some (16, 0))))]) (m' := m0) (o := some ((0 < 1))) rfl (show (0 < 1) from by omega) ?_
        refine ww_call (vs := [.inr (.inr (.inl (some (16, 0))))]) (r := []) (p := 0 < 1) rfl rfl rfl rfl (show 0 < 1 from by omega) (zs66 (c := c) (by omega) hG) ?_
        rintro _ _ _ ⟨r12, rfl, rfl, rfl, hr13⟩
        show wW (zK sc) zM13 31 [(0, .inr (.inr (.inl (some (0, 0))))), (1, .inl x), (2, .inl y)] [.inl r12] _ _ _
        refine ww_go 1 (pc' := 32) (L' := [(0, .inr (.inr (.inl (some (0, 0))))), (1, .inl x), (2, .inl y)]) (st' := [.inr (.inl (wi2l r12))]) (m' := m0) (o := none) rfl trivial ?_
        exact ww_rL rfl rfl ⟨zB_mono hG (by omega), hF, Or.inl ⟨_, rfl, rfl, by trivial⟩⟩
    · show wW (zK sc) zM13 9 [(0, .inr (.inr (.inl (some (0, 0))))), (1, .inl x), (2, .inl y)] [] _ _ _
      exact ww_thr rfl rfl (by decide) rfl (Nat.le_of_ble_eq_true rfl) rfl (by omega) ⟨zB_mono hG (by omega), hF, Or.inr ⟨_, rfl, rfl, by omega⟩⟩
set_option maxRecDepth 8000 in
/-- Dl.touch -/
theorem zs23 {sc : xSc} {n : Nat × Nat} {m0 : wm} {c : Int} (hn : n.1 < 2300) (hc : 0 ≤ c ∧ c ≤ 1000000) (x : Int) (y : Int) (z : Int) (hG : zB c m0) (h0 : -2147483648 ≤ x ∧ x ≤ 2147483647 ∧ -2147483648 ≤ y ∧ y ≤ 2147483647 ∧ -2147483648 ≤ z ∧ z ≤ 2147483647) : wX (zK sc) 23 [.inr (.inr (.inl (some (0, 0)))), .inl x, .inl y, .inl z] n m0 (fun o n1 m1 => zB c m1 ∧ zfr (fun k i j => (k = 17)) m0 m1 ∧ ((o = .inl none ∧ n = n1 ∧ (True)) ∨ (∃ q : Nat, o = .inr q ∧ (n.1 + 1, n.2 + 6) = n1 ∧ (q = 0 ∨ q = 2)))) := by
  refine wX_of (N := zM23) rfl (Nat.le_of_ble_eq_true rfl) ?_
  show wW (zK sc) zM23 0 [(0, .inr (.inr (.inl (some (0, 0))))), (1, .inl x), (2, .inl y), (3, .inl z)] [] n m0 _
  have hF : zfr (fun k i j => (k = 17)) m0 m0 := zfr_rf
  have be : 0 ≤ m0.1 16 0 3 ∧ m0.1 16 0 3 ≤ c := hG.1 16 _ rfl _ _
  refine ww_go 1 (pc' := 1) (L' := [(0, .inr (.inr (.inl (some (0, 0))))), (1, .inl x), (2, .inl y), (3, .inl z)]) (st' := [.inl y]) (m' := m0) (o := none) rfl trivial ?_
  refine ww_if (t := 9) rfl rfl (by omega) (fun (h1 : y < 0) => ?_) (fun (h1 : ¬ (y < 0)) => ?_)
  · show wW (zK sc) zM23 9 [(0, .inr (.inr (.inl (some (0, 0))))), (1, .inl x), (2, .inl y), (3, .inl z)] [] _ _ _
    exact ww_thr rfl rfl (by decide) rfl (Nat.le_of_ble_eq_true rfl) rfl (by omega) ⟨zB_mono hG (by omega), hF, Or.inr ⟨_, rfl, rfl, by omega⟩⟩
  · show wW (zK sc) zM23 4 [(0, .inr (.inr (.inl (some (0, 0))))), (1, .inl x), (2, .inl y), (3, .inl z)] [] _ _ _
    refine ww_go 2 (pc' := 6) (L' := [(0, .inr (.inr (.inl (some (0, 0))))), (1, .inl x), (2, .inl y), (3, .inl z)]) (st' := [.inl 4, .inl y]) (m' := m0) (o := none) rfl trivial ?_
    refine ww_ic (t := 19) rfl rfl (by omega) (fun (h2 : y < 4) => ?_) (fun (h2 : ¬ (y < 4)) => ?_)
    · show wW (zK sc) zM23 19 [(0, .inr (.inr (.inl (some (0, 0))))), (1, .inl x), (2, .inl y), (3, .inl z)] [] _ _ _
      refine ww_go 3 (pc' := 24) (L' := [(0, .inr (.inr (.inl (some (0, 0))))), (1, .inl x), (2, .inl y), (3, .inl z)]) (st' := [.inl x, .inr (.inr (.inl (some (16, 0))))]) (m' := m0) (o := some ((0 < 1))) rfl (show (0 < 1) from by omega) ?_
      refine ww_call (vs := [.inr (.inr (.inl (some (16, 0)))), .inl x]) (r := []) (p := 0 < 1) rfl rfl rfl rfl (show 0 < 1 from by omega) (zs68 (c := c) (by omega) x hG (by omega)) ?_
      rintro _ _ _ ⟨r3, rfl, rfl, rfl, hr4⟩
      show wW (zK sc) zM23 27 [(0, .inr (.inr (.inl (some (0, 0))))), (1, .inl x), (2, .inl y), (3, .inl z)] [.inl r3] _ _ _
      refine ww_if (t := 40) rfl rfl (by omega) (fun (h5 : r3 ≠ 0) => ?_) (fun (h5 : ¬ (r3 ≠ 0)) => ?_)
      · show wW (zK sc) zM23 40 [(0, .inr (.inr (.inl (some (0, 0))))), (1, .inl x), (2, .inl y), (3, .inl z)] [] _ _ _
        refine ww_go 5 (pc' := 47) (L' := [(0, .inr (.inr (.inl (some (0, 0))))), (1, .inl x), (2, .inl y), (3, .inl z)]) (st' := [.inl z, .inl y, .inl x, .inr (.inr (.inl (some (16, 0))))]) (m' := m0) (o := some ((0 < 1))) rfl (show (0 < 1) from by omega) ?_
        refine ww_call (vs := [.inr (.inr (.inl (some (16, 0)))), .inl x, .inl y, .inl z]) (r := []) (p := 0 < 1) rfl rfl rfl rfl (show 0 < 1 from by omega) (zs73 (c := c) (by omega) x y z hG (by omega)) ?_
        rintro _ _ m8 ⟨rfl, rfl, hGm8, hEm8, hr7⟩
        have hFm8 : zfr (fun k i j => (k = 17)) m0 m8 := zfr_tr hF hEm8 (fun k i j z => z)
        show wW (zK sc) zM23 50 [(0, .inr (.inr (.inl (some (0, 0))))), (1, .inl x), (2, .inl y), (3, .inl z)] [] _ _ _
        exact ww_rV rfl rfl ⟨zB_mono hGm8 (by omega), hFm8, Or.inl ⟨rfl, rfl, by trivial⟩⟩
      · show wW (zK sc) zM23 30 [(0, .inr (.inr (.inl (some (0, 0))))), (1, .inl x), (2, .inl y), (3, .inl z)] [] _ _ _
        exact ww_thr rfl rfl (by decide) rfl (Nat.le_of_ble_eq_true rfl) rfl (by omega) ⟨zB_mono hG (by omega), hF, Or.inr ⟨_, rfl, rfl, by omega⟩⟩
    · show wW (zK sc) zM23 9 [(0, .inr (.inr (.inl (some (0, 0))))), (1, .inl x), (2, .inl y), (3, .inl z)] [] _ _ _
      exact ww_thr rfl rfl (by decide) rfl (Nat.le_of_ble_eq_true rfl) rfl (by omega) ⟨zB_mono hG (by omega), hF, Or.inr ⟨_, rfl, rfl, by omega⟩⟩
set_option maxRecDepth 8000 in
/-- Dl.isSound -/
theorem zs12 {sc : xSc} {n : Nat × Nat} {m0 : wm} {c : Int} (hc : 0 ≤ c ∧ c ≤ 1000000)  (hG : zB c m0) : wX (zK sc) 12 [.inr (.inr (.inl (some (0, 0))))] n m0 (wr (fun vv n1 m1 => ∃ r : Int, vv = some (.inl r) ∧ n = n1 ∧ zB c m1 ∧ zfr (fun k i j => (k = 1 ∧ i = 2 ∧ j = 1) ∨ (k = 2 ∧ i = 2)) m0 m1 ∧ (0 ≤ r ∧ r ≤ 1))) := by
  refine wX_of (N := zM12) rfl (Nat.le_of_ble_eq_true rfl) ?_
  show wW (zK sc) zM12 0 [(0, .inr (.inr (.inl (some (0, 0)))))] [] n m0 _
  have hF : zfr (fun k i j => (k = 1 ∧ i = 2 ∧ j = 1) ∨ (k = 2 ∧ i = 2)) m0 m0 := zfr_rf
  refine ww_go 2 (pc' := 4) (L' := [(0, .inr (.inr (.inl (some (0, 0)))))]) (st' := [.inr (.inr (.inl (some (16, 0))))]) (m' := m0) (o := some ((0 < 1))) rfl (show (0 < 1) from by omega) ?_
  refine ww_call (vs := [.inr (.inr (.inl (some (16, 0))))]) (r := []) (p := 0 < 1) rfl rfl rfl rfl (show 0 < 1 from by omega) (zs70 (c := c) (by omega) hG) ?_
  rintro _ _ m3 ⟨r1, rfl, rfl, hGm3, hEm3, hr2⟩
  have hFm3 : zfr (fun k i j => (k = 1 ∧ i = 2 ∧ j = 1) ∨ (k = 2 ∧ i = 2)) m0 m3 := zfr_tr hF hEm3 (fun k i j z => Or.elim z (fun z => Or.inl z) (fun z => Or.inr (z)))
  show wW (zK sc) zM12 7 [(0, .inr (.inr (.inl (some (0, 0)))))] [.inl r1] _ _ _
  exact ww_rB rfl rfl (by omega) ⟨_, rfl, rfl, zB_mono hGm3 (by omega), hFm3, by omega⟩
set_option maxRecDepth 8000 in
/-- Dl.count -/
theorem zs6 {sc : xSc} {n : Nat × Nat} {m0 : wm} {c : Int} (hn : n.1 < 2300) (hc : 0 ≤ c ∧ c ≤ 1000000) (x : Int) (hG : zB c m0) (h0 : -2147483648 ≤ x ∧ x ≤ 2147483647) : wX (zK sc) 6 [.inr (.inr (.inl (some (0, 0)))), .inl x] n m0 (fun o n1 m1 => zB c m1 ∧ zfr (fun k i j => False) m0 m1 ∧ ((∃ r : Int, o = .inl (some (.inl r)) ∧ n = n1 ∧ (-2147483648 ≤ r ∧ r ≤ 2147483647)) ∨ (∃ q : Nat, o = .inr q ∧ (n.1 + 1, n.2 + 6) = n1 ∧ (q = 0)))) := by
  refine wX_of (N := zM6) rfl (Nat.le_of_ble_eq_true rfl) ?_
  show wW (zK sc) zM6 0 [(0, .inr (.inr (.inl (some (0, 0))))), (1, .inl x)] [] n m0 _
  have hF : zfr (fun k i j => False) m0 m0 := zfr_rf
  refine ww_go 1 (pc' := 1) (L' := [(0, .inr (.inr (.inl (some (0, 0))))), (1, .inl x)]) (st' := [.inl x]) (m' := m0) (o := none) rfl trivial ?_
  refine ww_tab rfl (by omega) (td := 49) rfl (fun (h1 : x < 0 ∨ 2 < x) => ?_) (fun h1a h1b => ?_)
  · show wW (zK sc) zM6 49 [(0, .inr (.inr (.inl (some (0, 0))))), (1, .inl x)] [] _ _ _
    exact ww_thr rfl rfl (by decide) rfl (Nat.le_of_ble_eq_true rfl) rfl (by omega) ⟨zB_mono hG (by omega), hF, Or.inr ⟨_, rfl, rfl, by omega⟩⟩
  · rcases (show x = 0 ∨ x = 1 ∨ x = 2 from by omega) with h1 | h1 | h1
    · refine ⟨27, 28, by rw [h1]; rfl, rfl, ?_⟩
      show wW (zK sc) zM6 28 [(0, .inr (.inr (.inl (some (0, 0))))), (1, .inl x)] [] _ _ _
      refine ww_go 2 (pc' := 32) (L' := [(0, .inr (.inr (.inl (some (0, 0))))), (1, .inl x)]) (st' := [.inr (.inr (.inl (some (19, 0))))]) (m' := m0) (o := some ((0 < 1))) rfl (show (0 < 1) from by omega) ?_
      refine ww_call (vs := [.inr (.inr (.inl (some (19, 0))))]) (r := []) (p := 0 < 1) rfl rfl rfl rfl (show 0 < 1 from by omega) (zs78 (c := c) (by omega) hG) ?_
      rintro _ _ _ ⟨r2, rfl, rfl, rfl, hr3⟩
      show wW (zK sc) zM6 35 [(0, .inr (.inr (.inl (some (0, 0))))), (1, .inl x)] [.inl r2] _ _ _
      exact ww_rI rfl rfl ⟨zB_mono hG (by omega), hF, Or.inl ⟨_, rfl, rfl, by omega⟩⟩
    · refine ⟨35, 36, by rw [h1]; rfl, rfl, ?_⟩
      show wW (zK sc) zM6 36 [(0, .inr (.inr (.inl (some (0, 0))))), (1, .inl x)] [] _ _ _
      refine ww_go 2 (pc' := 40) (L' := [(0, .inr (.inr (.inl (some (0, 0))))), (1, .inl x)]) (st' := [.inr (.inr (.inl (some (19, 0))))]) (m' := m0) (o := some ((0 < 1))) rfl (show (0 < 1) from by omega) ?_
      refine ww_call (vs := [.inr (.inr (.inl (some (19, 0))))]) (r := []) (p := 0 < 1) rfl rfl rfl rfl (show 0 < 1 from by omega) (zs75 (c := c) (by omega) hG) ?_
      rintro _ _ _ ⟨r4, rfl, rfl, rfl, hr5⟩
      show wW (zK sc) zM6 43 [(0, .inr (.inr (.inl (some (0, 0))))), (1, .inl x)] [.inl r4] _ _ _
      exact ww_rI rfl rfl ⟨zB_mono hG (by omega), hF, Or.inl ⟨_, rfl, rfl, by omega⟩⟩
    · refine ⟨43, 44, by rw [h1]; rfl, rfl, ?_⟩
      show wW (zK sc) zM6 44 [(0, .inr (.inr (.inl (some (0, 0))))), (1, .inl x)] [] _ _ _
      have b6 : 0 ≤ m0.1 0 0 7 ∧ m0.1 0 0 7 ≤ c := hG.1 0 _ rfl _ _
      refine ww_go 2 (pc' := 48) (L' := [(0, .inr (.inr (.inl (some (0, 0))))), (1, .inl x)]) (st' := [.inl (m0.1 0 0 7)]) (m' := m0) (o := some ((0 < 1))) rfl (show (0 < 1) from by omega) ?_
      exact ww_rI rfl rfl ⟨zB_mono hG (by omega), hF, Or.inl ⟨_, rfl, rfl, by omega⟩⟩
