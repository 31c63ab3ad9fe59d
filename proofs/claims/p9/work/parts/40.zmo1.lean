set_option maxRecDepth 8000 in
/-- Mo.in -/
theorem zs207 {sc : xSc} {n : Nat × Nat} {m : wm} (v : Int) (lo : Int) (hi : Int) (h0 : -2147483648 ≤ v ∧ v ≤ 2147483647 ∧ -2147483648 ≤ lo ∧ lo ≤ 2147483647 ∧ -2147483648 ≤ hi ∧ hi ≤ 2147483647) : wX (zK sc) 207 [.inl v, .inl lo, .inl hi] n m (wr (fun vv n1 m1 => ∃ r : Int, vv = some (.inl r) ∧ n = n1 ∧ m = m1 ∧ ((r = 1 ∧ lo ≤ v ∧ v ≤ hi) ∨ (r = 0 ∧ (v < lo ∨ hi < v))))) := by
  refine wX_of (N := zM207) rfl (Nat.le_of_ble_eq_true rfl) ?_
  show wW (zK sc) zM207 0 [(0, .inl v), (1, .inl lo), (2, .inl hi)] [] n m _
  refine ww_go 2 (pc' := 2) (L' := [(0, .inl v), (1, .inl lo), (2, .inl hi)]) (st' := [.inl lo, .inl v]) (m' := m) (o := none) rfl trivial ?_
  refine ww_ic (t := 14) rfl rfl (by omega) (fun (h1 : v < lo) => ?_) (fun (h1 : ¬ (v < lo)) => ?_)
  · show wW (zK sc) zM207 14 [(0, .inl v), (1, .inl lo), (2, .inl hi)] [] _ _ _
    refine ww_go 1 (pc' := 15) (L' := [(0, .inl v), (1, .inl lo), (2, .inl hi)]) (st' := [.inl 0]) (m' := m) (o := none) rfl trivial ?_
    exact ww_rB rfl rfl (by omega) ⟨_, rfl, rfl, rfl, by omega⟩
  · show wW (zK sc) zM207 5 [(0, .inl v), (1, .inl lo), (2, .inl hi)] [] _ _ _
    refine ww_go 2 (pc' := 7) (L' := [(0, .inl v), (1, .inl lo), (2, .inl hi)]) (st' := [.inl hi, .inl v]) (m' := m) (o := none) rfl trivial ?_
    refine ww_ic (t := 14) rfl rfl (by omega) (fun (h2 : hi < v) => ?_) (fun (h2 : ¬ (hi < v)) => ?_)
    · show wW (zK sc) zM207 14 [(0, .inl v), (1, .inl lo), (2, .inl hi)] [] _ _ _
      refine ww_go 1 (pc' := 15) (L' := [(0, .inl v), (1, .inl lo), (2, .inl hi)]) (st' := [.inl 0]) (m' := m) (o := none) rfl trivial ?_
      exact ww_rB rfl rfl (by omega) ⟨_, rfl, rfl, rfl, by omega⟩
    · show wW (zK sc) zM207 10 [(0, .inl v), (1, .inl lo), (2, .inl hi)] [] _ _ _
      refine ww_go 2 (pc' := 15) (L' := [(0, .inl v), (1, .inl lo), (2, .inl hi)]) (st' := [.inl 1]) (m' := m) (o := none) rfl trivial ?_
      exact ww_rB rfl rfl (by omega) ⟨_, rfl, rfl, rfl, by omega⟩
set_option maxRecDepth 8000 in
/-- Mo.blocks -/
theorem zs182 {sc : xSc} {n : Nat × Nat} {m : wm} (v : Int) (h0 : -2147483648 ≤ v ∧ v ≤ 2147483647) : wX (zK sc) 182 [.inl v] n m (wr (fun vv n1 m1 => ∃ r : Int, vv = some (.inl r) ∧ n = n1 ∧ m = m1 ∧ ((r = 2 ∧ 64 < v) ∨ (r = 1 ∧ v ≤ 64)))) := by
  refine wX_of (N := zM182) rfl (Nat.le_of_ble_eq_true rfl) ?_
  show wW (zK sc) zM182 0 [(0, .inl v)] [] n m _
  refine ww_go 2 (pc' := 3) (L' := [(0, .inl v)]) (st' := [.inl 64, .inl v]) (m' := m) (o := none) rfl trivial ?_
  refine ww_ic (t := 10) rfl rfl (by omega) (fun (h1 : v ≤ 64) => ?_) (fun (h1 : ¬ (v ≤ 64)) => ?_)
  · show wW (zK sc) zM182 10 [(0, .inl v)] [] _ _ _
    refine ww_go 1 (pc' := 11) (L' := [(0, .inl v)]) (st' := [.inl 1]) (m' := m) (o := none) rfl trivial ?_
    exact ww_rI rfl rfl ⟨_, rfl, rfl, rfl, by omega⟩
  · show wW (zK sc) zM182 6 [(0, .inl v)] [] _ _ _
    refine ww_go 2 (pc' := 11) (L' := [(0, .inl v)]) (st' := [.inl 2]) (m' := m) (o := none) rfl trivial ?_
    exact ww_rI rfl rfl ⟨_, rfl, rfl, rfl, by omega⟩
set_option maxRecDepth 8000 in
/-- Mo.pieces -/
theorem zs229 {sc : xSc} {n : Nat × Nat} {m : wm} (v : Int) (b : Int) (h0 : 0 ≤ v ∧ v ≤ 104 ∧ 0 ≤ b ∧ b ≤ 1) : wX (zK sc) 229 [.inl v, .inl b] n m (wr (fun vv n1 m1 => ∃ r : Int, vv = some (.inl r) ∧ n = n1 ∧ m = m1 ∧ (-8 ≤ r ∧ r ≤ 8 ∧ (b = 0 ∨ 64 < v → 1 ≤ r) ∧ (b = 0 ∨ 64 < v → 2 * r = zpb v b)))) := by
  refine wX_of (N := zM229) rfl (Nat.le_of_ble_eq_true rfl) ?_
  show wW (zK sc) zM229 0 [(0, .inl v), (1, .inl b)] [] n m _
  refine ww_go 1 (pc' := 1) (L' := [(0, .inl v), (1, .inl b)]) (st' := [.inl b]) (m' := m) (o := none) rfl trivial ?_
  refine ww_if (t := 19) rfl rfl (by omega) (fun (h1 : b ≠ 0) => ?_) (fun (h1 : ¬ (b ≠ 0)) => ?_)
  · show wW (zK sc) zM229 19 [(0, .inl v), (1, .inl b)] [] _ _ _
    refine ww_go 5 (pc' := 25) (L' := [(2, .inl (v - 64)), (0, .inl v), (1, .inl b)]) (st' := [.inl (v - 64)]) (m' := m) (o := none) rfl trivial ?_
    refine ww_if (t := 32) rfl rfl (by omega) (fun (h2 : v - 64 ≠ 0) => ?_) (fun (h2 : ¬ (v - 64 ≠ 0)) => ?_)
    · show wW (zK sc) zM229 32 [(2, .inl (v - 64)), (0, .inl v), (1, .inl b)] [] _ _ _
      have t3 : (0 ≤ ((v - 64) + 7) → ((v - 64) + 7).tdiv 8 = ((v - 64) + 7) / 8) ∧ (((v - 64) + 7) < 0 → ((v - 64) + 7).tdiv 8 = -((-(((v - 64) + 7))) / 8)) := ⟨fun z => Int.tdiv_eq_ediv_of_nonneg z, fun z => wtdiv_neg z⟩
      refine ww_go 5 (pc' := 39) (L' := [(2, .inl (v - 64)), (0, .inl v), (1, .inl b)]) (st' := [.inl (((v - 64) + 7).tdiv 8)]) (m' := m) (o := some ((-2147483648 ≤ (v - 64) + 7 ∧ (v - 64) + 7 ≤ 2147483647 ∧ 0 < (8 : Int) ∧ (8 : Int) ≤ 2147483647))) rfl (show (-2147483648 ≤ (v - 64) + 7 ∧ (v - 64) + 7 ≤ 2147483647 ∧ 0 < (8 : Int) ∧ (8 : Int) ≤ 2147483647) from by omega) ?_
      exact ww_rI rfl rfl ⟨_, rfl, rfl, rfl, by unfold zpb; omega⟩
    · show wW (zK sc) zM229 28 [(2, .inl (v - 64)), (0, .inl v), (1, .inl b)] [] _ _ _
      refine ww_go 2 (pc' := 39) (L' := [(2, .inl (v - 64)), (0, .inl v), (1, .inl b)]) (st' := [.inl 1]) (m' := m) (o := none) rfl trivial ?_
      exact ww_rI rfl rfl ⟨_, rfl, rfl, rfl, by unfold zpb; omega⟩
  · show wW (zK sc) zM229 4 [(0, .inl v), (1, .inl b)] [] _ _ _
    refine ww_go 2 (pc' := 7) (L' := [(0, .inl v), (1, .inl b)]) (st' := [.inl 64, .inl v]) (m' := m) (o := none) rfl trivial ?_
    refine ww_ic (t := 15) rfl rfl (by omega) (fun (h4 : v ≤ 64) => ?_) (fun (h4 : ¬ (v ≤ 64)) => ?_)
    · show wW (zK sc) zM229 15 [(0, .inl v), (1, .inl b)] [] _ _ _
      refine ww_go 4 (pc' := 25) (L' := [(2, .inl v), (0, .inl v), (1, .inl b)]) (st' := [.inl v]) (m' := m) (o := none) rfl trivial ?_
      refine ww_if (t := 32) rfl rfl (by omega) (fun (h5 : v ≠ 0) => ?_) (fun (h5 : ¬ (v ≠ 0)) => ?_)
      · show wW (zK sc) zM229 32 [(2, .inl v), (0, .inl v), (1, .inl b)] [] _ _ _
        have t6 : (0 ≤ (v + 7) → (v + 7).tdiv 8 = (v + 7) / 8) ∧ ((v + 7) < 0 → (v + 7).tdiv 8 = -((-((v + 7))) / 8)) := ⟨fun z => Int.tdiv_eq_ediv_of_nonneg z, fun z => wtdiv_neg z⟩
        refine ww_go 5 (pc' := 39) (L' := [(2, .inl v), (0, .inl v), (1, .inl b)]) (st' := [.inl ((v + 7).tdiv 8)]) (m' := m) (o := some ((-2147483648 ≤ v + 7 ∧ v + 7 ≤ 2147483647 ∧ 0 < (8 : Int) ∧ (8 : Int) ≤ 2147483647))) rfl (show (-2147483648 ≤ v + 7 ∧ v + 7 ≤ 2147483647 ∧ 0 < (8 : Int) ∧ (8 : Int) ≤ 2147483647) from by omega) ?_
        exact ww_rI rfl rfl ⟨_, rfl, rfl, rfl, by unfold zpb; omega⟩
      · show wW (zK sc) zM229 28 [(2, .inl v), (0, .inl v), (1, .inl b)] [] _ _ _
        refine ww_go 2 (pc' := 39) (L' := [(2, .inl v), (0, .inl v), (1, .inl b)]) (st' := [.inl 1]) (m' := m) (o := none) rfl trivial ?_
        exact ww_rI rfl rfl ⟨_, rfl, rfl, rfl, by unfold zpb; omega⟩
    · show wW (zK sc) zM229 10 [(0, .inl v), (1, .inl b)] [] _ _ _
      refine ww_go 4 (pc' := 25) (L' := [(2, .inl 64), (0, .inl v), (1, .inl b)]) (st' := [.inl 64]) (m' := m) (o := none) rfl trivial ?_
      refine ww_if (t := 32) rfl rfl (by decide) (fun (h7 : (64 : Int) ≠ 0) => ?_) (fun (h7 : ¬ ((64 : Int) ≠ 0)) => absurd (show (64 : Int) ≠ 0 from by decide) h7)
      show wW (zK sc) zM229 32 [(2, .inl 64), (0, .inl v), (1, .inl b)] [] _ _ _
      have t8 : (0 ≤ (71 : Int) → (71 : Int).tdiv 8 = (71 : Int) / 8) ∧ ((71 : Int) < 0 → (71 : Int).tdiv 8 = -((-((71 : Int))) / 8)) := ⟨fun z => Int.tdiv_eq_ediv_of_nonneg z, fun z => wtdiv_neg z⟩
      refine ww_go 5 (pc' := 39) (L' := [(2, .inl 64), (0, .inl v), (1, .inl b)]) (st' := [.inl ((71 : Int).tdiv 8)]) (m' := m) (o := some ((-2147483648 ≤ (71 : Int) ∧ (71 : Int) ≤ 2147483647 ∧ 0 < (8 : Int) ∧ (8 : Int) ≤ 2147483647))) rfl (show (-2147483648 ≤ (71 : Int) ∧ (71 : Int) ≤ 2147483647 ∧ 0 < (8 : Int) ∧ (8 : Int) ≤ 2147483647) from by omega) ?_
      exact ww_rI rfl rfl ⟨_, rfl, rfl, rfl, by unfold zpb; omega⟩
set_option maxRecDepth 8000 in
/-- Mo.more -/
theorem zs223 {sc : xSc} {n : Nat × Nat} {m : wm} (h : Int64) (b : Int) : wX (zK sc) 223 [.inr (.inl h), .inl b] n m (wr (fun vv n1 m1 => ∃ r : Int64, vv = some (.inr (.inl r)) ∧ n = n1 ∧ m = m1 ∧ (r = (h ^^^ wi2l b) * Int64.ofInt 1099511628211))) := by
  refine wX_of (N := zM223) rfl (Nat.le_of_ble_eq_true rfl) ?_
  show wW (zK sc) zM223 0 [(0, .inr (.inl h)), (2, .inl b)] [] n m _
  refine ww_go 6 (pc' := 8) (L' := [(0, .inr (.inl h)), (2, .inl b)]) (st' := [.inr (.inl ((h ^^^ (wi2l b)) * (Int64.ofInt 1099511628211)))]) (m' := m) (o := none) rfl trivial ?_
  exact ww_rL rfl rfl ⟨_, rfl, rfl, rfl, by rfl⟩
set_option maxRecDepth 8000 in
/-- Mo.begin -/
theorem zs181 {sc : xSc} {n : Nat × Nat} {m : wm}  : wX (zK sc) 181 [] n m (wr (fun vv n1 m1 => ∃ r : Int64, vv = some (.inr (.inl r)) ∧ n = n1 ∧ m = m1 ∧ (r = Int64.ofInt (-3750763034362895579)))) := by
  refine wX_of (N := zM181) rfl (Nat.le_of_ble_eq_true rfl) ?_
  show wW (zK sc) zM181 0 [] [] n m _
  refine ww_go 1 (pc' := 3) (L' := []) (st' := [.inr (.inl (Int64.ofInt (-3750763034362895579)))]) (m' := m) (o := none) rfl trivial ?_
  exact ww_rL rfl rfl ⟨_, rfl, rfl, rfl, by rfl⟩
set_option maxRecDepth 8000 in
/-- Mo.thrown -/
theorem zs250 {sc : xSc} {n : Nat × Nat} {m : wm} {c : Int} (hc : 0 ≤ c ∧ c ≤ 1000000)  (hG : zB c m) : wX (zK sc) 250 [.inr (.inr (.inl (some (34, 0))))] n m (wr (fun vv n1 m1 => ∃ r : Int, vv = some (.inl r) ∧ n = n1 ∧ m = m1 ∧ (r = m.1 34 0 0))) := by
  refine wX_of (N := zM250) rfl (Nat.le_of_ble_eq_true rfl) ?_
  show wW (zK sc) zM250 0 [(0, .inr (.inr (.inl (some (34, 0)))))] [] n m _
  have b1 : 0 ≤ m.1 34 0 0 ∧ m.1 34 0 0 ≤ 2 := hG.1 34 _ rfl _ _
  refine ww_go 2 (pc' := 4) (L' := [(0, .inr (.inr (.inl (some (34, 0)))))]) (st' := [.inl (m.1 34 0 0)]) (m' := m) (o := some ((0 < 1))) rfl (show (0 < 1) from by omega) ?_
  exact ww_rI rfl rfl ⟨_, rfl, rfl, rfl, by rfl⟩
set_option maxRecDepth 8000 in
/-- Mo.byteOf -/
theorem zs185 {sc : xSc} {n : Nat × Nat} {m : wm} {c : Int} (hc : 0 ≤ c ∧ c ≤ 1000000) (q : Int) (k : Int) (hG : zB c m) (h0 : 0 ≤ 104 * q + k ∧ 104 * q + k < 5824) : wX (zK sc) 185 [.inr (.inr (.inl (some (34, 0)))), .inl q, .inl k] n m (wr (fun vv n1 m1 => ∃ r : Int, vv = some (.inl r) ∧ n = n1 ∧ m = m1 ∧ (r = m.1 56 0 (104 * q + k).toNat ∧ 0 ≤ r ∧ r ≤ 255))) := by
  refine wX_of (N := zM185) rfl (Nat.le_of_ble_eq_true rfl) ?_
  show wW (zK sc) zM185 0 [(0, .inr (.inr (.inl (some (34, 0))))), (1, .inl q), (2, .inl k)] [] n m _
  have b1 : 0 ≤ m.1 56 0 (((104 * q) + k).toNat) ∧ m.1 56 0 (((104 * q) + k).toNat) ≤ 255 := hG.1 56 _ rfl _ _
  refine ww_go 8 (pc' := 11) (L' := [(0, .inr (.inr (.inl (some (34, 0))))), (1, .inl q), (2, .inl k)]) (st' := [.inl (m.1 56 0 (((104 * q) + k).toNat))]) (m' := m) (o := some ((0 < 1) ∧ (0 < 1 ∧ 0 ≤ (104 * q) + k ∧ (104 * q) + k < ((5824 : Nat) : Int)))) rfl (show (0 < 1) ∧ (0 < 1 ∧ 0 ≤ (104 * q) + k ∧ (104 * q) + k < ((5824 : Nat) : Int)) from by omega) ?_
  exact ww_rI rfl rfl ⟨_, rfl, rfl, rfl, by exact ⟨rfl, by omega, by omega⟩⟩
set_option maxRecDepth 8000 in
/-- Mo.fails -/
theorem zs196 {sc : xSc} {n : Nat × Nat} {m0 : wm} {c : Int} (hc : 0 ≤ c ∧ c ≤ 1000000) (b : Int) (e : Int) (hG : zB c m0) (h0 : 0 ≤ b ∧ b ≤ 1 ∧ 0 ≤ e ∧ e ≤ 2) : wX (zK sc) 196 [.inr (.inr (.inl (some (34, 0)))), .inl b, .inl e] n m0 (wr (fun vv n1 m1 => ∃ r : Int, vv = some (.inl r) ∧ n = n1 ∧ zB c m1 ∧ zfr (fun k i j => (k = 34 ∧ j = 0)) m0 m1 ∧ (r = b ∧ (b = 0 → m1.1 34 0 0 = 0) ∧ (b = 1 → m1.1 34 0 0 = e)))) := by
  refine wX_of (N := zM196) rfl (Nat.le_of_ble_eq_true rfl) ?_
  show wW (zK sc) zM196 0 [(0, .inr (.inr (.inl (some (34, 0))))), (1, .inl b), (2, .inl e)] [] n m0 _
  have hF : zfr (fun k i j => (k = 34 ∧ j = 0)) m0 m0 := zfr_rf
  refine ww_go 2 (pc' := 2) (L' := [(0, .inr (.inr (.inl (some (34, 0))))), (1, .inl b), (2, .inl e)]) (st' := [.inl b, .inr (.inr (.inl (some (34, 0))))]) (m' := m0) (o := none) rfl trivial ?_
  refine ww_if (t := 9) rfl rfl (by omega) (fun (h1 : b = 0) => ?_) (fun (h1 : ¬ (b = 0)) => ?_)
  · show wW (zK sc) zM196 9 [(0, .inr (.inr (.inl (some (34, 0))))), (1, .inl b), (2, .inl e)] [.inr (.inr (.inl (some (34, 0))))] _ _ _
    refine ww_go 2 (pc' := 13) (L' := [(0, .inr (.inr (.inl (some (34, 0))))), (1, .inl b), (2, .inl e)]) (st' := []) (m' := wuI m0 34 0 0 0) (o := some ((0 < 1))) rfl (show (0 < 1) from by omega) ?_
    obtain ⟨m2, hm2⟩ : ∃ zq9 : wm, zq9 = wuI m0 34 0 0 0 := ⟨_, rfl⟩
    rw [← hm2]
    have hGm2 : zB c m2 := by rw [hm2]; exact zB_wI rfl (show 0 ≤ (0 : Int) ∧ (0 : Int) ≤ 2 from by omega) hG
    have hFm2 : zfr (fun k i j => (k = 34 ∧ j = 0)) m0 m2 := by rw [hm2]; exact zfr_wI hF (show (34 = 34 ∧ 0 = 0) from ⟨rfl, rfl⟩)
    have s3 : m2.1 34 0 0 = (0 : Int) := by rw [hm2]; exact wuI_self
    refine ww_go 1 (pc' := 14) (L' := [(0, .inr (.inr (.inl (some (34, 0))))), (1, .inl b), (2, .inl e)]) (st' := [.inl b]) (m' := m2) (o := none) rfl trivial ?_
    exact ww_rB rfl rfl (by omega) ⟨_, rfl, rfl, zB_mono hGm2 (by omega), hFm2, by omega⟩
  · show wW (zK sc) zM196 5 [(0, .inr (.inr (.inl (some (34, 0))))), (1, .inl b), (2, .inl e)] [.inr (.inr (.inl (some (34, 0))))] _ _ _
    refine ww_go 3 (pc' := 13) (L' := [(0, .inr (.inr (.inl (some (34, 0))))), (1, .inl b), (2, .inl e)]) (st' := []) (m' := wuI m0 34 0 0 e) (o := some ((0 < 1))) rfl (show (0 < 1) from by omega) ?_
    obtain ⟨m4, hm4⟩ : ∃ zq9 : wm, zq9 = wuI m0 34 0 0 e := ⟨_, rfl⟩
    rw [← hm4]
    have hGm4 : zB c m4 := by rw [hm4]; exact zB_wI rfl (show 0 ≤ e ∧ e ≤ 2 from by omega) hG
    have hFm4 : zfr (fun k i j => (k = 34 ∧ j = 0)) m0 m4 := by rw [hm4]; exact zfr_wI hF (show (34 = 34 ∧ 0 = 0) from ⟨rfl, rfl⟩)
    have s5 : m4.1 34 0 0 = e := by rw [hm4]; exact wuI_self
    refine ww_go 1 (pc' := 14) (L' := [(0, .inr (.inr (.inl (some (34, 0))))), (1, .inl b), (2, .inl e)]) (st' := [.inl b]) (m' := m4) (o := none) rfl trivial ?_
    exact ww_rB rfl rfl (by omega) ⟨_, rfl, rfl, zB_mono hGm4 (by omega), hFm4, by omega⟩
set_option maxRecDepth 8000 in
theorem zs226_l2 {sc : xSc} {n : Nat × Nat} {m : wm} {c : Int} (hc : 0 ≤ c ∧ c ≤ 1000000) (f : Int) (hG : zB c m) (h0 : 0 ≤ f ∧ f ≤ 11) : ∀ (d : Nat), ∀ (k : Int), (6 - k).toNat = d → (0 ≤ k ∧ k ≤ 6) → (∀ j : Nat, (j : Int) < k → m.1 35 0 j = m.1 39 0 (6 * f.toNat + j)) →  wW (zK sc) zM226 2 [(0, .inr (.inr (.inl (some (34, 0))))), (1, .inl f), (2, .inl k)] [] n m (wr (fun vv n1 m1 => ∃ r : Int, vv = some (.inl r) ∧ n = n1 ∧ m = m1 ∧ ((-255 ≤ r ∧ r ≤ 255) ∧ zCm (zNH m) (zNR m f.toNat) r))) := by
  intro d
  induction d using Nat.strongRecOn with
  | ind d ih =>
    intro k hd hk hz
    have bn9 : 0 ≤ m.1 34 0 1 ∧ m.1 34 0 1 ≤ 6 := hG.1 34 _ rfl 0 1
    have b1 : 0 ≤ m.1 34 0 1 ∧ m.1 34 0 1 ≤ 6 := hG.1 34 _ rfl _ _
    refine ww_go 3 (pc' := 7) (L' := [(0, .inr (.inr (.inl (some (34, 0))))), (1, .inl f), (2, .inl k)]) (st' := [.inl (m.1 34 0 1), .inl k]) (m' := m) (o := some ((0 < 1))) rfl (show (0 < 1) from by omega) ?_
    refine ww_ic (t := 65) rfl rfl (by omega) (fun (h2 : m.1 34 0 1 ≤ k) => ?_) (fun (h2 : ¬ (m.1 34 0 1 ≤ k)) => ?_)
    · show wW (zK sc) zM226 65 [(0, .inr (.inr (.inl (some (34, 0))))), (1, .inl f), (2, .inl k)] [] _ _ _
      have b3 : 0 ≤ m.1 34 0 1 ∧ m.1 34 0 1 ≤ 6 := hG.1 34 _ rfl _ _
      have b4 : 0 ≤ m.1 38 0 f.toNat ∧ m.1 38 0 f.toNat ≤ 6 := hG.1 38 _ rfl _ _
      refine ww_go 7 (pc' := 76) (L' := [(0, .inr (.inr (.inl (some (34, 0))))), (1, .inl f), (2, .inl k)]) (st' := [.inl ((m.1 34 0 1) - (m.1 38 0 f.toNat))]) (m' := m) (o := some ((0 < 1) ∧ (0 < 1) ∧ (0 < 1 ∧ 0 ≤ f ∧ f < ((12 : Nat) : Int)))) rfl (show (0 < 1) ∧ (0 < 1) ∧ (0 < 1 ∧ 0 ≤ f ∧ f < ((12 : Nat) : Int)) from by omega) ?_
      exact ww_rI rfl rfl ⟨_, rfl, rfl, rfl, by (refine ⟨by omega, ?_⟩; exact zCm_al (fun j h1 h2 => hz j (by omega)))⟩
    · show wW (zK sc) zM226 10 [(0, .inr (.inr (.inl (some (34, 0))))), (1, .inl f), (2, .inl k)] [] _ _ _
      have b5 : 0 ≤ m.1 38 0 f.toNat ∧ m.1 38 0 f.toNat ≤ 6 := hG.1 38 _ rfl _ _
      refine ww_go 5 (pc' := 17) (L' := [(0, .inr (.inr (.inl (some (34, 0))))), (1, .inl f), (2, .inl k)]) (st' := [.inl (m.1 38 0 f.toNat), .inl k]) (m' := m) (o := some ((0 < 1) ∧ (0 < 1 ∧ 0 ≤ f ∧ f < ((12 : Nat) : Int)))) rfl (show (0 < 1) ∧ (0 < 1 ∧ 0 ≤ f ∧ f < ((12 : Nat) : Int)) from by omega) ?_
      refine ww_ic (t := 65) rfl rfl (by omega) (fun (h6 : m.1 38 0 f.toNat ≤ k) => ?_) (fun (h6 : ¬ (m.1 38 0 f.toNat ≤ k)) => ?_)
      · show wW (zK sc) zM226 65 [(0, .inr (.inr (.inl (some (34, 0))))), (1, .inl f), (2, .inl k)] [] _ _ _
        have b7 : 0 ≤ m.1 34 0 1 ∧ m.1 34 0 1 ≤ 6 := hG.1 34 _ rfl _ _
        have b8 : 0 ≤ m.1 38 0 f.toNat ∧ m.1 38 0 f.toNat ≤ 6 := hG.1 38 _ rfl _ _
        refine ww_go 7 (pc' := 76) (L' := [(0, .inr (.inr (.inl (some (34, 0))))), (1, .inl f), (2, .inl k)]) (st' := [.inl ((m.1 34 0 1) - (m.1 38 0 f.toNat))]) (m' := m) (o := some ((0 < 1) ∧ (0 < 1) ∧ (0 < 1 ∧ 0 ≤ f ∧ f < ((12 : Nat) : Int)))) rfl (show (0 < 1) ∧ (0 < 1) ∧ (0 < 1 ∧ 0 ≤ f ∧ f < ((12 : Nat) : Int)) from by omega) ?_
        exact ww_rI rfl rfl ⟨_, rfl, rfl, rfl, by (refine ⟨by omega, ?_⟩; exact zCm_al (fun j h1 h2 => hz j (by omega)))⟩
      · show wW (zK sc) zM226 20 [(0, .inr (.inr (.inl (some (34, 0))))), (1, .inl f), (2, .inl k)] [] _ _ _
        have b9 : 0 ≤ m.1 35 0 k.toNat ∧ m.1 35 0 k.toNat ≤ 255 := hG.1 35 _ rfl _ _
        have b10 : 0 ≤ m.1 39 0 (((6 * f) + k).toNat) ∧ m.1 39 0 (((6 * f) + k).toNat) ≤ 255 := hG.1 39 _ rfl _ _
        refine ww_go 12 (pc' := 37) (L' := [(0, .inr (.inr (.inl (some (34, 0))))), (1, .inl f), (2, .inl k)]) (st' := [.inl (m.1 39 0 (((6 * f) + k).toNat)), .inl (m.1 35 0 k.toNat)]) (m' := m) (o := some ((0 < 1) ∧ (0 < 1 ∧ 0 ≤ k ∧ k < ((6 : Nat) : Int)) ∧ (0 < 1) ∧ (0 < 1 ∧ 0 ≤ (6 * f) + k ∧ (6 * f) + k < ((72 : Nat) : Int)))) rfl (show (0 < 1) ∧ (0 < 1 ∧ 0 ≤ k ∧ k < ((6 : Nat) : Int)) ∧ (0 < 1) ∧ (0 < 1 ∧ 0 ≤ (6 * f) + k ∧ (6 * f) + k < ((72 : Nat) : Int)) from by omega) ?_
        refine ww_ic (t := 59) rfl rfl (by omega) (fun (h11 : m.1 35 0 k.toNat = m.1 39 0 (((6 * f) + k).toNat)) => ?_) (fun (h11 : ¬ (m.1 35 0 k.toNat = m.1 39 0 (((6 * f) + k).toNat))) => ?_)
        · show wW (zK sc) zM226 59 [(0, .inr (.inr (.inl (some (34, 0))))), (1, .inl f), (2, .inl k)] [] _ _ _
          refine ww_go 2 (pc' := 2) (L' := [(2, .inl (k + 1)), (0, .inr (.inr (.inl (some (34, 0))))), (1, .inl f)]) (st' := []) (m' := m) (o := none) rfl trivial ?_
          refine ww_sub (L := [(0, .inr (.inr (.inl (some (34, 0))))), (1, .inl f), (2, .inl (k + 1))]) ⟨rfl, rfl, rfl, trivial⟩ rfl rfl ?_
          exact (ih _ (by omega)) (k + 1) rfl (by omega) (by exact fun j hj => (Decidable.em ((j : Int) < k)).elim (fun z => hz j z) (fun z => (by rw [show j = k.toNat from by omega, ← show (6 * f + k).toNat = 6 * f.toNat + k.toNat from by omega]; omega)))
        · show wW (zK sc) zM226 40 [(0, .inr (.inr (.inl (some (34, 0))))), (1, .inl f), (2, .inl k)] [] _ _ _
          have b12 : 0 ≤ m.1 35 0 k.toNat ∧ m.1 35 0 k.toNat ≤ 255 := hG.1 35 _ rfl _ _
          have b13 : 0 ≤ m.1 39 0 (((6 * f) + k).toNat) ∧ m.1 39 0 (((6 * f) + k).toNat) ≤ 255 := hG.1 39 _ rfl _ _
          refine ww_go 13 (pc' := 58) (L' := [(0, .inr (.inr (.inl (some (34, 0))))), (1, .inl f), (2, .inl k)]) (st' := [.inl ((m.1 35 0 k.toNat) - (m.1 39 0 (((6 * f) + k).toNat)))]) (m' := m) (o := some ((0 < 1) ∧ (0 < 1 ∧ 0 ≤ k ∧ k < ((6 : Nat) : Int)) ∧ (0 < 1) ∧ (0 < 1 ∧ 0 ≤ (6 * f) + k ∧ (6 * f) + k < ((72 : Nat) : Int)))) rfl (show (0 < 1) ∧ (0 < 1 ∧ 0 ≤ k ∧ k < ((6 : Nat) : Int)) ∧ (0 < 1) ∧ (0 < 1 ∧ 0 ≤ (6 * f) + k ∧ (6 * f) + k < ((72 : Nat) : Int)) from by omega) ?_
          exact ww_rI rfl rfl ⟨_, rfl, rfl, rfl, by (refine ⟨by omega, ?_⟩; have e9 : m.1 39 0 (6 * f + k).toNat = m.1 39 0 (6 * f.toNat + k.toNat) := (by rw [show (6 * f + k).toNat = 6 * f.toNat + k.toNat from by omega]); have e8 := zCm_ne (s := m.1 34 0 1) (s' := m.1 38 0 f.toNat) (g := m.1 35 0) (g' := fun q => m.1 39 0 (6 * f.toNat + q)) (k := k.toNat) (by omega) (by omega) (fun j hj => hz j (by omega)) (fun z => (by have z9 : m.1 35 0 k.toNat = m.1 39 0 (6 * f.toNat + k.toNat) := z; omega)); rw [e9]; exact e8)⟩
set_option maxRecDepth 8000 in
/-- Mo.order -/
theorem zs226 {sc : xSc} {n : Nat × Nat} {m : wm} {c : Int} (hc : 0 ≤ c ∧ c ≤ 1000000) (f : Int) (hG : zB c m) (h0 : 0 ≤ f ∧ f ≤ 11) : wX (zK sc) 226 [.inr (.inr (.inl (some (34, 0)))), .inl f] n m (wr (fun vv n1 m1 => ∃ r : Int, vv = some (.inl r) ∧ n = n1 ∧ m = m1 ∧ ((-255 ≤ r ∧ r ≤ 255) ∧ zCm (zNH m) (zNR m f.toNat) r))) := by
  refine wX_of (N := zM226) rfl (Nat.le_of_ble_eq_true rfl) ?_
  show wW (zK sc) zM226 0 [(0, .inr (.inr (.inl (some (34, 0))))), (1, .inl f)] [] n m _
  have bn9 : 0 ≤ m.1 34 0 1 ∧ m.1 34 0 1 ≤ 6 := hG.1 34 _ rfl 0 1
  refine ww_go 2 (pc' := 2) (L' := [(2, .inl 0), (0, .inr (.inr (.inl (some (34, 0))))), (1, .inl f)]) (st' := []) (m' := m) (o := none) rfl trivial ?_
  refine ww_sub (L := [(0, .inr (.inr (.inl (some (34, 0))))), (1, .inl f), (2, .inl 0)]) ⟨rfl, rfl, rfl, trivial⟩ rfl rfl ?_
  exact (zs226_l2 hc f hG h0 _) 0 rfl (by omega) (by exact fun j hj => absurd hj (by omega))
set_option maxRecDepth 8000 in
theorem zs230_l5 {sc : xSc} {n : Nat × Nat} {m : wm} {c : Int} (hc : 0 ≤ c ∧ c ≤ 1000000) (f : Int) (hG : zB c m) (h0 : 0 ≤ f ∧ f ≤ 1) : ∀ (d : Nat), ∀ (k : Int), (12 - k).toNat = d → (6 * f ≤ k ∧ k ≤ 6 * f + m.1 37 0 f.toNat) → (∀ x : Nat, (x : Int) < k - 6 * f → ∃ c, zCm (zNR m (6 * f.toNat + x)) (zNH m) c ∧ c < 0) →  wW (zK sc) zM230 5 [(0, .inr (.inr (.inl (some (34, 0))))), (1, .inl f), (2, .inl k)] [] n m (wr (fun vv n1 m1 => ∃ r : Int, vv = some (.inl r) ∧ n = n1 ∧ m = m1 ∧ (6 * f ≤ r ∧ r ≤ 6 * f + m.1 37 0 f.toNat ∧ zPl (fun x => zNR m (6 * f.toNat + x)) (m.1 37 0 f.toNat) (zNH m) (r - 6 * f)))) := by
  intro d
  induction d using Nat.strongRecOn with
  | ind d ih =>
    intro k hd hk hp
    have b0 : 0 ≤ m.1 37 0 f.toNat ∧ m.1 37 0 f.toNat ≤ 6 := hG.1 37 _ rfl _ _
    have b1 : 0 ≤ m.1 37 0 f.toNat ∧ m.1 37 0 f.toNat ≤ 6 := hG.1 37 _ rfl _ _
    refine ww_go 9 (pc' := 17) (L' := [(0, .inr (.inr (.inl (some (34, 0))))), (1, .inl f), (2, .inl k)]) (st' := [.inl ((6 * f) + (m.1 37 0 f.toNat)), .inl k]) (m' := m) (o := some ((0 < 1) ∧ (0 < 1 ∧ 0 ≤ f ∧ f < ((2 : Nat) : Int)))) rfl (show (0 < 1) ∧ (0 < 1 ∧ 0 ≤ f ∧ f < ((2 : Nat) : Int)) from by omega) ?_
    refine ww_ic (t := 34) rfl rfl (by omega) (fun (h2 : (6 * f) + (m.1 37 0 f.toNat) ≤ k) => ?_) (fun (h2 : ¬ ((6 * f) + (m.1 37 0 f.toNat) ≤ k)) => ?_)
    · show wW (zK sc) zM230 34 [(0, .inr (.inr (.inl (some (34, 0))))), (1, .inl f), (2, .inl k)] [] _ _ _
      refine ww_go 1 (pc' := 35) (L' := [(0, .inr (.inr (.inl (some (34, 0))))), (1, .inl f), (2, .inl k)]) (st' := [.inl k]) (m' := m) (o := none) rfl trivial ?_
      exact ww_rI rfl rfl ⟨_, rfl, rfl, rfl, by (exact ⟨by omega, by omega, ⟨by omega, by omega, fun x hx => hp x (by omega), fun z => absurd z (by omega)⟩⟩)⟩
    · show wW (zK sc) zM230 20 [(0, .inr (.inr (.inl (some (34, 0))))), (1, .inl f), (2, .inl k)] [] _ _ _
      refine ww_go 2 (pc' := 22) (L' := [(0, .inr (.inr (.inl (some (34, 0))))), (1, .inl f), (2, .inl k)]) (st' := [.inl k, .inr (.inr (.inl (some (34, 0))))]) (m' := m) (o := none) rfl trivial ?_
      refine ww_call (vs := [.inr (.inr (.inl (some (34, 0)))), .inl k]) (r := []) (p := 0 < 1) rfl rfl rfl rfl (show 0 < 1 from by omega) (zs226 (c := c) (by omega) k hG (by omega)) ?_
      rintro _ _ _ ⟨r3, rfl, rfl, rfl, hr4⟩
      show wW (zK sc) zM230 25 [(0, .inr (.inr (.inl (some (34, 0))))), (1, .inl f), (2, .inl k)] [.inl r3] _ _ _
      refine ww_if (t := 34) rfl rfl (by omega) (fun (h5 : r3 ≤ 0) => ?_) (fun (h5 : ¬ (r3 ≤ 0)) => ?_)
      · show wW (zK sc) zM230 34 [(0, .inr (.inr (.inl (some (34, 0))))), (1, .inl f), (2, .inl k)] [] _ _ _
        refine ww_go 1 (pc' := 35) (L' := [(0, .inr (.inr (.inl (some (34, 0))))), (1, .inl f), (2, .inl k)]) (st' := [.inl k]) (m' := m) (o := none) rfl trivial ?_
        exact ww_rI rfl rfl ⟨_, rfl, rfl, rfl, by (exact ⟨by omega, by omega, ⟨by omega, by omega, fun x hx => hp x (by omega), fun z => ⟨_, (by show zCm (zNR m (6 * f.toNat + (k - 6 * f).toNat)) (zNH m) _; rw [show 6 * f.toNat + (k - 6 * f).toNat = k.toNat from by omega]; exact zCm_w hr4.2), by omega⟩⟩⟩)⟩
      · show wW (zK sc) zM230 28 [(0, .inr (.inr (.inl (some (34, 0))))), (1, .inl f), (2, .inl k)] [] _ _ _
        refine ww_go 2 (pc' := 5) (L' := [(2, .inl (k + 1)), (0, .inr (.inr (.inl (some (34, 0))))), (1, .inl f)]) (st' := []) (m' := m) (o := none) rfl trivial ?_
        refine ww_sub (L := [(0, .inr (.inr (.inl (some (34, 0))))), (1, .inl f), (2, .inl (k + 1))]) ⟨rfl, rfl, rfl, trivial⟩ rfl rfl ?_
        exact (ih _ (by omega)) (k + 1) rfl (by omega) (by exact fun x hx => (Decidable.em ((x : Int) < k - 6 * f)).elim (fun z => hp x z) (fun z => ⟨_, (by rw [show 6 * f.toNat + x = k.toNat from by omega]; exact zCm_w hr4.2), by omega⟩))
set_option maxRecDepth 8000 in
/-- Mo.place -/
theorem zs230 {sc : xSc} {n : Nat × Nat} {m : wm} {c : Int} (hc : 0 ≤ c ∧ c ≤ 1000000) (f : Int) (hG : zB c m) (h0 : 0 ≤ f ∧ f ≤ 1) : wX (zK sc) 230 [.inr (.inr (.inl (some (34, 0)))), .inl f] n m (wr (fun vv n1 m1 => ∃ r : Int, vv = some (.inl r) ∧ n = n1 ∧ m = m1 ∧ (6 * f ≤ r ∧ r ≤ 6 * f + m.1 37 0 f.toNat ∧ zPl (fun x => zNR m (6 * f.toNat + x)) (m.1 37 0 f.toNat) (zNH m) (r - 6 * f)))) := by
  refine wX_of (N := zM230) rfl (Nat.le_of_ble_eq_true rfl) ?_
  show wW (zK sc) zM230 0 [(0, .inr (.inr (.inl (some (34, 0))))), (1, .inl f)] [] n m _
  have b0 : 0 ≤ m.1 37 0 f.toNat ∧ m.1 37 0 f.toNat ≤ 6 := hG.1 37 _ rfl _ _
  refine ww_go 4 (pc' := 5) (L' := [(2, .inl (6 * f)), (0, .inr (.inr (.inl (some (34, 0))))), (1, .inl f)]) (st' := []) (m' := m) (o := none) rfl trivial ?_
  refine ww_sub (L := [(0, .inr (.inr (.inl (some (34, 0))))), (1, .inl f), (2, .inl (6 * f))]) ⟨rfl, rfl, rfl, trivial⟩ rfl rfl ?_
  exact (zs230_l5 hc f hG h0 _) (6 * f) rfl (by omega) (by exact fun x hx => absurd hx (by omega))
set_option maxRecDepth 8000 in
/-- Mo.isThere -/
theorem zs214 {sc : xSc} {n : Nat × Nat} {m : wm} {c : Int} (hc : 0 ≤ c ∧ c ≤ 1000000) (f : Int) (k : Int) (hG : zB c m) (h0 : 0 ≤ f ∧ f ≤ 1 ∧ 6 * f ≤ k ∧ k ≤ 12) : wX (zK sc) 214 [.inr (.inr (.inl (some (34, 0)))), .inl f, .inl k] n m (wr (fun vv n1 m1 => ∃ r : Int, vv = some (.inl r) ∧ n = n1 ∧ m = m1 ∧ ((r = 1 ∧ k < 6 * f + m.1 37 0 f.toNat ∧ zAt (fun x => zNR m (6 * f.toNat + x)) (m.1 37 0 f.toNat) (zNH m) (k - 6 * f)) ∨ (r = 0 ∧ ¬ zAt (fun x => zNR m (6 * f.toNat + x)) (m.1 37 0 f.toNat) (zNH m) (k - 6 * f))))) := by
  refine wX_of (N := zM214) rfl (Nat.le_of_ble_eq_true rfl) ?_
  show wW (zK sc) zM214 0 [(0, .inr (.inr (.inl (some (34, 0))))), (1, .inl f), (2, .inl k)] [] n m _
  have b0 : 0 ≤ m.1 37 0 f.toNat ∧ m.1 37 0 f.toNat ≤ 6 := hG.1 37 _ rfl _ _
  have b1 : 0 ≤ m.1 37 0 f.toNat ∧ m.1 37 0 f.toNat ≤ 6 := hG.1 37 _ rfl _ _
  refine ww_go 9 (pc' := 12) (L' := [(0, .inr (.inr (.inl (some (34, 0))))), (1, .inl f), (2, .inl k)]) (st' := [.inl ((6 * f) + (m.1 37 0 f.toNat)), .inl k]) (m' := m) (o := some ((0 < 1) ∧ (0 < 1 ∧ 0 ≤ f ∧ f < ((2 : Nat) : Int)))) rfl (show (0 < 1) ∧ (0 < 1 ∧ 0 ≤ f ∧ f < ((2 : Nat) : Int)) from by omega) ?_
  refine ww_ic (t := 27) rfl rfl (by omega) (fun (h2 : (6 * f) + (m.1 37 0 f.toNat) ≤ k) => ?_) (fun (h2 : ¬ ((6 * f) + (m.1 37 0 f.toNat) ≤ k)) => ?_)
  · show wW (zK sc) zM214 27 [(0, .inr (.inr (.inl (some (34, 0))))), (1, .inl f), (2, .inl k)] [] _ _ _
    refine ww_go 1 (pc' := 28) (L' := [(0, .inr (.inr (.inl (some (34, 0))))), (1, .inl f), (2, .inl k)]) (st' := [.inl 0]) (m' := m) (o := none) rfl trivial ?_
    exact ww_rB rfl rfl (by omega) ⟨_, rfl, rfl, rfl, by (exact Or.inr ⟨rfl, fun z => absurd z.1 (by omega)⟩)⟩
  · show wW (zK sc) zM214 15 [(0, .inr (.inr (.inl (some (34, 0))))), (1, .inl f), (2, .inl k)] [] _ _ _
    refine ww_go 2 (pc' := 17) (L' := [(0, .inr (.inr (.inl (some (34, 0))))), (1, .inl f), (2, .inl k)]) (st' := [.inl k, .inr (.inr (.inl (some (34, 0))))]) (m' := m) (o := none) rfl trivial ?_
    refine ww_call (vs := [.inr (.inr (.inl (some (34, 0)))), .inl k]) (r := []) (p := 0 < 1) rfl rfl rfl rfl (show 0 < 1 from by omega) (zs226 (c := c) (by omega) k hG (by omega)) ?_
    rintro _ _ _ ⟨r3, rfl, rfl, rfl, hr4⟩
    show wW (zK sc) zM214 20 [(0, .inr (.inr (.inl (some (34, 0))))), (1, .inl f), (2, .inl k)] [.inl r3] _ _ _
    refine ww_if (t := 27) rfl rfl (by omega) (fun (h5 : r3 ≠ 0) => ?_) (fun (h5 : ¬ (r3 ≠ 0)) => ?_)
    · show wW (zK sc) zM214 27 [(0, .inr (.inr (.inl (some (34, 0))))), (1, .inl f), (2, .inl k)] [] _ _ _
      refine ww_go 1 (pc' := 28) (L' := [(0, .inr (.inr (.inl (some (34, 0))))), (1, .inl f), (2, .inl k)]) (st' := [.inl 0]) (m' := m) (o := none) rfl trivial ?_
      exact ww_rB rfl rfl (by omega) ⟨_, rfl, rfl, rfl, by (exact Or.inr ⟨rfl, fun z => (by have z1 : zCm (zNR m (6 * f.toNat + (k - 6 * f).toNat)) (zNH m) 0 := z.2; rw [show 6 * f.toNat + (k - 6 * f).toNat = k.toNat from by omega] at z1; have z9 := zCm_u z1 (zCm_w hr4.2); omega)⟩)⟩
    · show wW (zK sc) zM214 23 [(0, .inr (.inr (.inl (some (34, 0))))), (1, .inl f), (2, .inl k)] [] _ _ _
      refine ww_go 2 (pc' := 28) (L' := [(0, .inr (.inr (.inl (some (34, 0))))), (1, .inl f), (2, .inl k)]) (st' := [.inl 1]) (m' := m) (o := none) rfl trivial ?_
      exact ww_rB rfl rfl (by omega) ⟨_, rfl, rfl, rfl, by (exact Or.inl ⟨rfl, by omega, by omega, (by show zCm (zNR m (6 * f.toNat + (k - 6 * f).toNat)) (zNH m) 0; rw [show 6 * f.toNat + (k - 6 * f).toNat = k.toNat from by omega]; have z9 := zCm_w hr4.2; rwa [show -r3 = 0 from by omega] at z9)⟩)⟩
set_option maxRecDepth 8000 in
theorem zs212_l15 {sc : xSc} {n : Nat × Nat} {m : wm} {c : Int} (hc : 0 ≤ c ∧ c ≤ 1000000)  (hG : zB c m) : ∀ (d : Nat), ∀ (q : Int) (k : Int), (6 - k).toNat = d → (0 ≤ k ∧ k ≤ 6 ∧ 0 ≤ q ∧ q ≤ 1) → ((q = 1 ∧ 1 ≤ m.1 34 0 1 ∧ ∀ j : Nat, (j : Int) < k → 33 ≤ m.1 35 0 j ∧ m.1 35 0 j ≤ 126) ∨ (q = 0 ∧ ¬ zNm (zNH m))) →  wW (zK sc) zM212 15 [(0, .inr (.inr (.inl (some (34, 0))))), (1, .inl q), (2, .inl k)] [] n m (wr (fun vv n1 m1 => ∃ r : Int, vv = some (.inl r) ∧ n = n1 ∧ m = m1 ∧ ((r = 1 ∧ zNm (zNH m)) ∨ (r = 0 ∧ ¬ zNm (zNH m))))) := by
  intro d
  induction d using Nat.strongRecOn with
  | ind d ih =>
    intro q k hd hk hq
    have bn9 : 0 ≤ m.1 34 0 1 ∧ m.1 34 0 1 ≤ 6 := hG.1 34 _ rfl 0 1
    have b1 : 0 ≤ m.1 34 0 1 ∧ m.1 34 0 1 ≤ 6 := hG.1 34 _ rfl _ _
    refine ww_go 3 (pc' := 20) (L' := [(0, .inr (.inr (.inl (some (34, 0))))), (1, .inl q), (2, .inl k)]) (st' := [.inl (m.1 34 0 1), .inl k]) (m' := m) (o := some ((0 < 1))) rfl (show (0 < 1) from by omega) ?_
    refine ww_ic (t := 55) rfl rfl (by omega) (fun (h2 : m.1 34 0 1 ≤ k) => ?_) (fun (h2 : ¬ (m.1 34 0 1 ≤ k)) => ?_)
    · show wW (zK sc) zM212 55 [(0, .inr (.inr (.inl (some (34, 0))))), (1, .inl q), (2, .inl k)] [] _ _ _
      refine ww_go 1 (pc' := 56) (L' := [(0, .inr (.inr (.inl (some (34, 0))))), (1, .inl q), (2, .inl k)]) (st' := [.inl q]) (m' := m) (o := none) rfl trivial ?_
      exact ww_rB rfl rfl (by omega) ⟨_, rfl, rfl, rfl, by exact hq.elim (fun z => Or.inl ⟨z.1, show 1 ≤ m.1 34 0 1 from z.2.1, show m.1 34 0 1 ≤ 6 from by omega, fun j hj => (by have hj2 : (j : Int) < m.1 34 0 1 := hj; rw [show (zNH m).2 j = m.1 35 0 j from zcut_2 hj2]; exact z.2.2 j (by omega))⟩) (fun z => Or.inr z)⟩
    · show wW (zK sc) zM212 23 [(0, .inr (.inr (.inl (some (34, 0))))), (1, .inl q), (2, .inl k)] [] _ _ _
      refine ww_go 1 (pc' := 24) (L' := [(0, .inr (.inr (.inl (some (34, 0))))), (1, .inl q), (2, .inl k)]) (st' := [.inl q]) (m' := m) (o := none) rfl trivial ?_
      refine ww_if (t := 47) rfl rfl (by omega) (fun (h3 : q = 0) => ?_) (fun (h3 : ¬ (q = 0)) => ?_)
      · show wW (zK sc) zM212 47 [(0, .inr (.inr (.inl (some (34, 0))))), (1, .inl q), (2, .inl k)] [] _ _ _
        refine ww_go 4 (pc' := 15) (L' := [(2, .inl (k + 1)), (1, .inl 0), (0, .inr (.inr (.inl (some (34, 0)))))]) (st' := []) (m' := m) (o := none) rfl trivial ?_
        refine ww_sub (L := [(0, .inr (.inr (.inl (some (34, 0))))), (1, .inl 0), (2, .inl (k + 1))]) ⟨rfl, rfl, rfl, trivial⟩ rfl rfl ?_
        exact (ih _ (by omega)) 0 (k + 1) rfl (by omega) (by exact hq.elim (fun z => absurd z.1 (by omega)) (fun z => Or.inr ⟨rfl, z.2⟩))
      · show wW (zK sc) zM212 27 [(0, .inr (.inr (.inl (some (34, 0))))), (1, .inl q), (2, .inl k)] [] _ _ _
        have b4 : 0 ≤ m.1 35 0 k.toNat ∧ m.1 35 0 k.toNat ≤ 255 := hG.1 35 _ rfl _ _
        refine ww_go 6 (pc' := 37) (L' := [(0, .inr (.inr (.inl (some (34, 0))))), (1, .inl q), (2, .inl k)]) (st' := [.inl 126, .inl 33, .inl (m.1 35 0 k.toNat)]) (m' := m) (o := some ((0 < 1) ∧ (0 < 1 ∧ 0 ≤ k ∧ k < ((6 : Nat) : Int)))) rfl (show (0 < 1) ∧ (0 < 1 ∧ 0 ≤ k ∧ k < ((6 : Nat) : Int)) from by omega) ?_
        refine ww_call (vs := [.inl (m.1 35 0 k.toNat), .inl 33, .inl 126]) (r := []) (p := True) rfl rfl rfl rfl trivial (zs207 (m.1 35 0 k.toNat) 33 126 (by omega)) ?_
        rintro _ _ _ ⟨r5, rfl, rfl, rfl, hr6⟩
        show wW (zK sc) zM212 40 [(0, .inr (.inr (.inl (some (34, 0))))), (1, .inl q), (2, .inl k)] [.inl r5] _ _ _
        refine ww_if (t := 47) rfl rfl (by omega) (fun (h7 : r5 = 0) => ?_) (fun (h7 : ¬ (r5 = 0)) => ?_)
        · show wW (zK sc) zM212 47 [(0, .inr (.inr (.inl (some (34, 0))))), (1, .inl q), (2, .inl k)] [] _ _ _
          refine ww_go 4 (pc' := 15) (L' := [(2, .inl (k + 1)), (1, .inl 0), (0, .inr (.inr (.inl (some (34, 0)))))]) (st' := []) (m' := m) (o := none) rfl trivial ?_
          refine ww_sub (L := [(0, .inr (.inr (.inl (some (34, 0))))), (1, .inl 0), (2, .inl (k + 1))]) ⟨rfl, rfl, rfl, trivial⟩ rfl rfl ?_
          exact (ih _ (by omega)) 0 (k + 1) rfl (by omega) (by exact Or.inr ⟨rfl, fun z => (by have z9 := z.2.2 k.toNat (show ((k.toNat : Nat) : Int) < m.1 34 0 1 from by omega); rw [show (zNH m).2 k.toNat = m.1 35 0 k.toNat from zcut_2 (show ((k.toNat : Nat) : Int) < m.1 34 0 1 from by omega)] at z9; omega)⟩)
        · show wW (zK sc) zM212 43 [(0, .inr (.inr (.inl (some (34, 0))))), (1, .inl q), (2, .inl k)] [] _ _ _
          refine ww_go 5 (pc' := 15) (L' := [(2, .inl (k + 1)), (1, .inl 1), (0, .inr (.inr (.inl (some (34, 0)))))]) (st' := []) (m' := m) (o := none) rfl trivial ?_
          refine ww_sub (L := [(0, .inr (.inr (.inl (some (34, 0))))), (1, .inl 1), (2, .inl (k + 1))]) ⟨rfl, rfl, rfl, trivial⟩ rfl rfl ?_
          exact (ih _ (by omega)) 1 (k + 1) rfl (by omega) (by exact hq.elim (fun z => Or.inl ⟨rfl, z.2.1, fun j hj => (Decidable.em ((j : Int) < k)).elim (fun w => z.2.2 j w) (fun w => (by rw [show j = k.toNat from by omega]; omega))⟩) (fun z => absurd z.1 (by omega)))
set_option maxRecDepth 8000 in
/-- Mo.isName -/
theorem zs212 {sc : xSc} {n : Nat × Nat} {m : wm} {c : Int} (hc : 0 ≤ c ∧ c ≤ 1000000)  (hG : zB c m) : wX (zK sc) 212 [.inr (.inr (.inl (some (34, 0))))] n m (wr (fun vv n1 m1 => ∃ r : Int, vv = some (.inl r) ∧ n = n1 ∧ m = m1 ∧ ((r = 1 ∧ zNm (zNH m)) ∨ (r = 0 ∧ ¬ zNm (zNH m))))) := by
  refine wX_of (N := zM212) rfl (Nat.le_of_ble_eq_true rfl) ?_
  show wW (zK sc) zM212 0 [(0, .inr (.inr (.inl (some (34, 0)))))] [] n m _
  have bn9 : 0 ≤ m.1 34 0 1 ∧ m.1 34 0 1 ≤ 6 := hG.1 34 _ rfl 0 1
  have b1 : 0 ≤ m.1 34 0 1 ∧ m.1 34 0 1 ≤ 6 := hG.1 34 _ rfl _ _
  refine ww_go 2 (pc' := 4) (L' := [(0, .inr (.inr (.inl (some (34, 0)))))]) (st' := [.inl (m.1 34 0 1)]) (m' := m) (o := some ((0 < 1))) rfl (show (0 < 1) from by omega) ?_
  refine ww_if (t := 11) rfl rfl (by omega) (fun (h2 : m.1 34 0 1 ≤ 0) => ?_) (fun (h2 : ¬ (m.1 34 0 1 ≤ 0)) => ?_)
  · show wW (zK sc) zM212 11 [(0, .inr (.inr (.inl (some (34, 0)))))] [] _ _ _
    refine ww_go 4 (pc' := 15) (L' := [(2, .inl 0), (1, .inl 0), (0, .inr (.inr (.inl (some (34, 0)))))]) (st' := []) (m' := m) (o := none) rfl trivial ?_
    refine ww_sub (L := [(0, .inr (.inr (.inl (some (34, 0))))), (1, .inl 0), (2, .inl 0)]) ⟨rfl, rfl, rfl, trivial⟩ rfl rfl ?_
    exact (zs212_l15 hc hG _) 0 0 rfl (by omega) (by exact Or.inr ⟨rfl, fun z => absurd z.1 (by show ¬ (1 ≤ m.1 34 0 1); omega)⟩)
  · show wW (zK sc) zM212 7 [(0, .inr (.inr (.inl (some (34, 0)))))] [] _ _ _
    refine ww_go 5 (pc' := 15) (L' := [(2, .inl 0), (1, .inl 1), (0, .inr (.inr (.inl (some (34, 0)))))]) (st' := []) (m' := m) (o := none) rfl trivial ?_
    refine ww_sub (L := [(0, .inr (.inr (.inl (some (34, 0))))), (1, .inl 1), (2, .inl 0)]) ⟨rfl, rfl, rfl, trivial⟩ rfl rfl ?_
    exact (zs212_l15 hc hG _) 1 0 rfl (by omega) (by exact Or.inl ⟨rfl, by omega, fun j hj => absurd hj (by omega)⟩)
set_option maxRecDepth 8000 in
theorem zs197_l80 {sc : xSc} {n : Nat × Nat} {m0 : wm} {c : Int} (hc : 0 ≤ c ∧ c ≤ 1000000) (b : Int) (v : Int64) (x : Int) (hG : zB c m0) (h0 : 0 ≤ b ∧ b ≤ 1 ∧ -2147483648 ≤ x ∧ x ≤ 2147483647) : ∀ (d : Nat), ∀ (t : Int) (k : Int) (m : wm), (x - k).toNat = d → zB c m → zfr (fun k i j => (k = 34 ∧ j = 0) ∨ (k = 34 ∧ j = 1) ∨ (k = 34 ∧ j = 2) ∨ (k = 35 ∧ b = 0) ∨ (k = 36 ∧ b = 1)) m0 m → (0 ≤ k ∧ k ≤ x ∧ 1 ≤ x ∧ x ≤ 8) → ((b = 1 ∧ t = m0.1 34 0 2 ∧ t + x ≤ 96 ∨ b = 0 ∧ t = m0.1 34 0 1 ∧ t + x ≤ 6)) → (m.1 34 0 0 = 0 ∧ m.1 34 0 1 = m0.1 34 0 1 ∧ m.1 34 0 2 = m0.1 34 0 2) → ((b = 1 → zApu (m.1 36 0) (m0.1 36 0) t k x v) ∧ (b = 0 → zApu (m.1 35 0) (m0.1 35 0) t k x v)) →  wW (zK sc) zM197 80 [(0, .inr (.inr (.inl (some (34, 0))))), (1, .inl b), (2, .inr (.inl v)), (4, .inl x), (5, .inl t), (6, .inl k)] [] n m (wr (fun vv n1 m1 => ∃ r : Int, vv = some (.inl r) ∧ n = n1 ∧ zB c m1 ∧ zfr (fun k i j => (k = 34 ∧ j = 0) ∨ (k = 34 ∧ j = 1) ∨ (k = 34 ∧ j = 2) ∨ (k = 35 ∧ b = 0) ∨ (k = 36 ∧ b = 1)) m0 m1 ∧ (((m1.1 34 0 0 = 1 ∧ (x < 1 ∨ 8 < x) ∧ m1.1 34 0 1 = m0.1 34 0 1 ∧ m1.1 34 0 2 = m0.1 34 0 2) ∨ (m1.1 34 0 0 = 2 ∧ 1 ≤ x ∧ x ≤ 8 ∧ m1.1 34 0 1 = m0.1 34 0 1 ∧ m1.1 34 0 2 = m0.1 34 0 2 ∧ (b = 1 ∧ 96 < m0.1 34 0 2 + x ∨ b = 0 ∧ 6 < m0.1 34 0 1 + x)) ∨ (m1.1 34 0 0 = 0 ∧ 1 ≤ x ∧ x ≤ 8 ∧ (b = 1 ∧ m0.1 34 0 2 + x ≤ 96 ∧ r = m0.1 34 0 2 + x ∧ m1.1 34 0 2 = r ∧ m1.1 34 0 1 = m0.1 34 0 1 ∨ b = 0 ∧ m0.1 34 0 1 + x ≤ 6 ∧ r = m0.1 34 0 1 + x ∧ m1.1 34 0 1 = r ∧ m1.1 34 0 2 = m0.1 34 0 2))) ∧ (m1.1 34 0 0 = 0 → (b = 1 → zApd (m1.1 36 0) (m0.1 36 0) (m0.1 34 0 2) x v) ∧ (b = 0 → zApd (m1.1 35 0) (m0.1 35 0) (m0.1 34 0 1) x v)) ∧ (m1.1 34 0 0 ≠ 0 → zNH m1 = zNH m0 ∧ zDH m1 = zDH m0)))) := by
  intro d
  induction d using Nat.strongRecOn with
  | ind d ih =>
    intro t k m hd hGm hFm hk ht hm ha
    have q1 : 0 ≤ m0.1 34 0 1 ∧ m0.1 34 0 1 ≤ 6 := hG.1 34 _ rfl _ _
    have q2 : 0 ≤ m0.1 34 0 2 ∧ m0.1 34 0 2 ≤ 96 := hG.1 34 _ rfl _ _
    refine ww_go 2 (pc' := 84) (L' := [(0, .inr (.inr (.inl (some (34, 0))))), (1, .inl b), (2, .inr (.inl v)), (4, .inl x), (5, .inl t), (6, .inl k)]) (st' := [.inl x, .inl k]) (m' := m) (o := none) rfl trivial ?_
    refine ww_ic (t := 143) rfl rfl (by omega) (fun (h1 : x ≤ k) => ?_) (fun (h1 : ¬ (x ≤ k)) => ?_)
    · show wW (zK sc) zM197 143 [(0, .inr (.inr (.inl (some (34, 0))))), (1, .inl b), (2, .inr (.inl v)), (4, .inl x), (5, .inl t), (6, .inl k)] [] _ _ _
      refine ww_go 2 (pc' := 145) (L' := [(0, .inr (.inr (.inl (some (34, 0))))), (1, .inl b), (2, .inr (.inl v)), (4, .inl x), (5, .inl t), (6, .inl k)]) (st' := [.inl b, .inr (.inr (.inl (some (34, 0))))]) (m' := m) (o := none) rfl trivial ?_
      refine ww_if (t := 156) rfl rfl (by omega) (fun (h2 : b = 0) => ?_) (fun (h2 : ¬ (b = 0)) => ?_)
      · show wW (zK sc) zM197 156 [(0, .inr (.inr (.inl (some (34, 0))))), (1, .inl b), (2, .inr (.inl v)), (4, .inl x), (5, .inl t), (6, .inl k)] [.inr (.inr (.inl (some (34, 0))))] _ _ _
        have b3 : 0 ≤ m.1 34 0 2 ∧ m.1 34 0 2 ≤ 96 := hGm.1 34 _ rfl _ _
        refine ww_go 3 (pc' := 163) (L' := [(0, .inr (.inr (.inl (some (34, 0))))), (1, .inl b), (2, .inr (.inl v)), (4, .inl x), (5, .inl t), (6, .inl k)]) (st' := []) (m' := wuI m 34 0 2 (m.1 34 0 2)) (o := some ((0 < 1) ∧ (0 < 1))) rfl (show (0 < 1) ∧ (0 < 1) from by omega) ?_
        obtain ⟨m4, hm4⟩ : ∃ zq9 : wm, zq9 = wuI m 34 0 2 (m.1 34 0 2) := ⟨_, rfl⟩
        rw [← hm4]
        have hGm4 : zB c m4 := by rw [hm4]; exact zB_wI rfl (show 0 ≤ m.1 34 0 2 ∧ m.1 34 0 2 ≤ 96 from by omega) hGm
        have hFm4 : zfr (fun k i j => (k = 34 ∧ j = 0) ∨ (k = 34 ∧ j = 1) ∨ (k = 34 ∧ j = 2) ∨ (k = 35 ∧ b = 0) ∨ (k = 36 ∧ b = 1)) m0 m4 := by rw [hm4]; exact zfr_wI hFm (show (34 = 34 ∧ 2 = 0) ∨ (34 = 34 ∧ 2 = 1) ∨ (34 = 34 ∧ 2 = 2) ∨ (34 = 35 ∧ b = 0) ∨ (34 = 36 ∧ b = 1) from Or.inr (Or.inr (Or.inl (⟨rfl, rfl⟩))))
        have s5 : m4.1 34 0 2 = m.1 34 0 2 := by rw [hm4]; exact wuI_self
        have w6 : m4.1 34 0 0 = m.1 34 0 0 := by rw [hm4]; exact wuI_nj (by omega)
        have w7 : m4.1 34 0 1 = m.1 34 0 1 := by rw [hm4]; exact wuI_nj (by omega)
        refine ww_go 2 (pc' := 165) (L' := [(0, .inr (.inr (.inl (some (34, 0))))), (1, .inl b), (2, .inr (.inl v)), (4, .inl x), (5, .inl t), (6, .inl k)]) (st' := [.inl b, .inr (.inr (.inl (some (34, 0))))]) (m' := m4) (o := none) rfl trivial ?_
        refine ww_if (t := 175) rfl rfl (by omega) (fun (h8 : b = 0) => ?_) (fun (h8 : ¬ (b = 0)) => absurd (show b = 0 from by omega) h8)
        show wW (zK sc) zM197 175 [(0, .inr (.inr (.inl (some (34, 0))))), (1, .inl b), (2, .inr (.inl v)), (4, .inl x), (5, .inl t), (6, .inl k)] [.inr (.inr (.inl (some (34, 0))))] _ _ _
        refine ww_go 4 (pc' := 183) (L' := [(0, .inr (.inr (.inl (some (34, 0))))), (1, .inl b), (2, .inr (.inl v)), (4, .inl x), (5, .inl t), (6, .inl k)]) (st' := []) (m' := wuI m4 34 0 1 (t + x)) (o := some ((0 < 1))) rfl (show (0 < 1) from by omega) ?_
        obtain ⟨m9, hm9⟩ : ∃ zq9 : wm, zq9 = wuI m4 34 0 1 (t + x) := ⟨_, rfl⟩
        rw [← hm9]
        have hGm9 : zB c m9 := by rw [hm9]; exact zB_wI rfl (show 0 ≤ t + x ∧ t + x ≤ 6 from by omega) hGm4
        have hFm9 : zfr (fun k i j => (k = 34 ∧ j = 0) ∨ (k = 34 ∧ j = 1) ∨ (k = 34 ∧ j = 2) ∨ (k = 35 ∧ b = 0) ∨ (k = 36 ∧ b = 1)) m0 m9 := by rw [hm9]; exact zfr_wI hFm4 (show (34 = 34 ∧ 1 = 0) ∨ (34 = 34 ∧ 1 = 1) ∨ (34 = 34 ∧ 1 = 2) ∨ (34 = 35 ∧ b = 0) ∨ (34 = 36 ∧ b = 1) from Or.inr (Or.inl (⟨rfl, rfl⟩)))
        have s10 : m9.1 34 0 1 = t + x := by rw [hm9]; exact wuI_self
        have w11 : m9.1 34 0 0 = m4.1 34 0 0 := by rw [hm9]; exact wuI_nj (by omega)
        have w12 : m9.1 34 0 2 = m4.1 34 0 2 := by rw [hm9]; exact wuI_nj (by omega)
        refine ww_go 3 (pc' := 188) (L' := [(0, .inr (.inr (.inl (some (34, 0))))), (1, .inl b), (2, .inr (.inl v)), (4, .inl x), (5, .inl t), (6, .inl k)]) (st' := [.inl (t + x)]) (m' := m9) (o := none) rfl trivial ?_
        have hk9 : k = x := by omega
        rw [hk9] at ha
        exact ww_rI rfl rfl ⟨_, rfl, rfl, zB_mono hGm9 (by omega), hFm9, ⟨by omega, fun _ => ⟨fun z => (by rw [hm9, hm4]; have z9 := ha.1 z; rw [show t = m0.1 34 0 2 from by omega] at z9; exact z9), fun z => (by rw [hm9, hm4]; have z9 := ha.2 z; rw [show t = m0.1 34 0 1 from by omega] at z9; exact z9)⟩, fun z => absurd (by omega) z⟩⟩
      · show wW (zK sc) zM197 148 [(0, .inr (.inr (.inl (some (34, 0))))), (1, .inl b), (2, .inr (.inl v)), (4, .inl x), (5, .inl t), (6, .inl k)] [.inr (.inr (.inl (some (34, 0))))] _ _ _
        refine ww_go 5 (pc' := 163) (L' := [(0, .inr (.inr (.inl (some (34, 0))))), (1, .inl b), (2, .inr (.inl v)), (4, .inl x), (5, .inl t), (6, .inl k)]) (st' := []) (m' := wuI m 34 0 2 (t + x)) (o := some ((0 < 1))) rfl (show (0 < 1) from by omega) ?_
        obtain ⟨m13, hm13⟩ : ∃ zq9 : wm, zq9 = wuI m 34 0 2 (t + x) := ⟨_, rfl⟩
        rw [← hm13]
        have hGm13 : zB c m13 := by rw [hm13]; exact zB_wI rfl (show 0 ≤ t + x ∧ t + x ≤ 96 from by omega) hGm
        have hFm13 : zfr (fun k i j => (k = 34 ∧ j = 0) ∨ (k = 34 ∧ j = 1) ∨ (k = 34 ∧ j = 2) ∨ (k = 35 ∧ b = 0) ∨ (k = 36 ∧ b = 1)) m0 m13 := by rw [hm13]; exact zfr_wI hFm (show (34 = 34 ∧ 2 = 0) ∨ (34 = 34 ∧ 2 = 1) ∨ (34 = 34 ∧ 2 = 2) ∨ (34 = 35 ∧ b = 0) ∨ (34 = 36 ∧ b = 1) from Or.inr (Or.inr (Or.inl (⟨rfl, rfl⟩))))
        have s14 : m13.1 34 0 2 = t + x := by rw [hm13]; exact wuI_self
        have w15 : m13.1 34 0 0 = m.1 34 0 0 := by rw [hm13]; exact wuI_nj (by omega)
        have w16 : m13.1 34 0 1 = m.1 34 0 1 := by rw [hm13]; exact wuI_nj (by omega)
        refine ww_go 2 (pc' := 165) (L' := [(0, .inr (.inr (.inl (some (34, 0))))), (1, .inl b), (2, .inr (.inl v)), (4, .inl x), (5, .inl t), (6, .inl k)]) (st' := [.inl b, .inr (.inr (.inl (some (34, 0))))]) (m' := m13) (o := none) rfl trivial ?_
        refine ww_if (t := 175) rfl rfl (by omega) (fun (h17 : b = 0) => absurd h17 (by omega)) (fun (h17 : ¬ (b = 0)) => ?_)
        show wW (zK sc) zM197 168 [(0, .inr (.inr (.inl (some (34, 0))))), (1, .inl b), (2, .inr (.inl v)), (4, .inl x), (5, .inl t), (6, .inl k)] [.inr (.inr (.inl (some (34, 0))))] _ _ _
        have b18 : 0 ≤ m13.1 34 0 1 ∧ m13.1 34 0 1 ≤ 6 := hGm13.1 34 _ rfl _ _
        refine ww_go 4 (pc' := 183) (L' := [(0, .inr (.inr (.inl (some (34, 0))))), (1, .inl b), (2, .inr (.inl v)), (4, .inl x), (5, .inl t), (6, .inl k)]) (st' := []) (m' := wuI m13 34 0 1 (m13.1 34 0 1)) (o := some ((0 < 1) ∧ (0 < 1))) rfl (show (0 < 1) ∧ (0 < 1) from by omega) ?_
        obtain ⟨m19, hm19⟩ : ∃ zq9 : wm, zq9 = wuI m13 34 0 1 (m13.1 34 0 1) := ⟨_, rfl⟩
        rw [← hm19]
        have hGm19 : zB c m19 := by rw [hm19]; exact zB_wI rfl (show 0 ≤ m13.1 34 0 1 ∧ m13.1 34 0 1 ≤ 6 from by omega) hGm13
        have hFm19 : zfr (fun k i j => (k = 34 ∧ j = 0) ∨ (k = 34 ∧ j = 1) ∨ (k = 34 ∧ j = 2) ∨ (k = 35 ∧ b = 0) ∨ (k = 36 ∧ b = 1)) m0 m19 := by rw [hm19]; exact zfr_wI hFm13 (show (34 = 34 ∧ 1 = 0) ∨ (34 = 34 ∧ 1 = 1) ∨ (34 = 34 ∧ 1 = 2) ∨ (34 = 35 ∧ b = 0) ∨ (34 = 36 ∧ b = 1) from Or.inr (Or.inl (⟨rfl, rfl⟩)))
        have s20 : m19.1 34 0 1 = m13.1 34 0 1 := by rw [hm19]; exact wuI_self
        have w21 : m19.1 34 0 0 = m13.1 34 0 0 := by rw [hm19]; exact wuI_nj (by omega)
        have w22 : m19.1 34 0 2 = m13.1 34 0 2 := by rw [hm19]; exact wuI_nj (by omega)
        refine ww_go 3 (pc' := 188) (L' := [(0, .inr (.inr (.inl (some (34, 0))))), (1, .inl b), (2, .inr (.inl v)), (4, .inl x), (5, .inl t), (6, .inl k)]) (st' := [.inl (t + x)]) (m' := m19) (o := none) rfl trivial ?_
        have hk9 : k = x := by omega
        rw [hk9] at ha
        exact ww_rI rfl rfl ⟨_, rfl, rfl, zB_mono hGm19 (by omega), hFm19, ⟨by omega, fun _ => ⟨fun z => (by rw [hm19, hm13]; have z9 := ha.1 z; rw [show t = m0.1 34 0 2 from by omega] at z9; exact z9), fun z => (by rw [hm19, hm13]; have z9 := ha.2 z; rw [show t = m0.1 34 0 1 from by omega] at z9; exact z9)⟩, fun z => absurd (by omega) z⟩⟩
    · show wW (zK sc) zM197 87 [(0, .inr (.inr (.inl (some (34, 0))))), (1, .inl b), (2, .inr (.inl v)), (4, .inl x), (5, .inl t), (6, .inl k)] [] _ _ _
      have t23 := wl2i_rg ((v >>> (wi2l (8 * ((x - 1) - k)) &&& 63)) &&& (Int64.ofInt 255))
      have t24 := wl2i_255 (v >>> (wi2l (8 * ((x - 1) - k)) &&& 63))
      refine ww_go 14 (pc' := 107) (L' := [(7, .inl (wl2i ((v >>> (wi2l (8 * ((x - 1) - k)) &&& 63)) &&& (Int64.ofInt 255)))), (0, .inr (.inr (.inl (some (34, 0))))), (1, .inl b), (2, .inr (.inl v)), (4, .inl x), (5, .inl t), (6, .inl k)]) (st' := [.inl b]) (m' := m) (o := none) rfl trivial ?_
      refine ww_if (t := 125) rfl rfl (by omega) (fun (h25 : b = 0) => ?_) (fun (h25 : ¬ (b = 0)) => ?_)
      · show wW (zK sc) zM197 125 [(7, .inl (wl2i ((v >>> (wi2l (8 * ((x - 1) - k)) &&& 63)) &&& (Int64.ofInt 255)))), (0, .inr (.inr (.inl (some (34, 0))))), (1, .inl b), (2, .inr (.inl v)), (4, .inl x), (5, .inl t), (6, .inl k)] [] _ _ _
        refine ww_go 7 (pc' := 137) (L' := [(7, .inl (wl2i ((v >>> (wi2l (8 * ((x - 1) - k)) &&& 63)) &&& (Int64.ofInt 255)))), (0, .inr (.inr (.inl (some (34, 0))))), (1, .inl b), (2, .inr (.inl v)), (4, .inl x), (5, .inl t), (6, .inl k)]) (st' := []) (m' := wuI m 35 0 ((t + k).toNat) (wl2i ((v >>> (wi2l (8 * ((x - 1) - k)) &&& 63)) &&& (Int64.ofInt 255)))) (o := some ((0 < 1) ∧ (0 < 1 ∧ 0 ≤ t + k ∧ t + k < ((6 : Nat) : Int)))) rfl (show (0 < 1) ∧ (0 < 1 ∧ 0 ≤ t + k ∧ t + k < ((6 : Nat) : Int)) from by omega) ?_
        obtain ⟨m26, hm26⟩ : ∃ zq9 : wm, zq9 = wuI m 35 0 ((t + k).toNat) (wl2i ((v >>> (wi2l (8 * ((x - 1) - k)) &&& 63)) &&& (Int64.ofInt 255))) := ⟨_, rfl⟩
        rw [← hm26]
        have hGm26 : zB c m26 := by rw [hm26]; exact zB_wI rfl (show 0 ≤ wl2i ((v >>> (wi2l (8 * ((x - 1) - k)) &&& 63)) &&& (Int64.ofInt 255)) ∧ wl2i ((v >>> (wi2l (8 * ((x - 1) - k)) &&& 63)) &&& (Int64.ofInt 255)) ≤ 255 from by omega) hGm
        have hFm26 : zfr (fun k i j => (k = 34 ∧ j = 0) ∨ (k = 34 ∧ j = 1) ∨ (k = 34 ∧ j = 2) ∨ (k = 35 ∧ b = 0) ∨ (k = 36 ∧ b = 1)) m0 m26 := by rw [hm26]; exact zfr_wI hFm (show (35 = 34 ∧ ((t + k).toNat) = 0) ∨ (35 = 34 ∧ ((t + k).toNat) = 1) ∨ (35 = 34 ∧ ((t + k).toNat) = 2) ∨ (35 = 35 ∧ b = 0) ∨ (35 = 36 ∧ b = 1) from Or.inr (Or.inr (Or.inr (Or.inl ((show (35 = 35 ∧ b = 0) from by omega))))))
        have s27 : m26.1 35 0 ((t + k).toNat) = wl2i ((v >>> (wi2l (8 * ((x - 1) - k)) &&& 63)) &&& (Int64.ofInt 255)) := by rw [hm26]; exact wuI_self
        have w28 : m26.1 34 0 0 = m.1 34 0 0 := by rw [hm26]; rfl
        have w29 : m26.1 34 0 1 = m.1 34 0 1 := by rw [hm26]; rfl
        have w30 : m26.1 34 0 2 = m.1 34 0 2 := by rw [hm26]; rfl
        refine ww_go 2 (pc' := 80) (L' := [(6, .inl (k + 1)), (7, .inl (wl2i ((v >>> (wi2l (8 * ((x - 1) - k)) &&& 63)) &&& (Int64.ofInt 255)))), (0, .inr (.inr (.inl (some (34, 0))))), (1, .inl b), (2, .inr (.inl v)), (4, .inl x), (5, .inl t)]) (st' := []) (m' := m26) (o := none) rfl trivial ?_
        refine ww_sub (L := [(0, .inr (.inr (.inl (some (34, 0))))), (1, .inl b), (2, .inr (.inl v)), (4, .inl x), (5, .inl t), (6, .inl (k + 1))]) ⟨rfl, rfl, rfl, rfl, rfl, rfl, trivial⟩ rfl rfl ?_
        exact (ih _ (by omega)) t (k + 1) m26 rfl (zB_mono hGm26 (by omega)) hFm26 (by omega) (by omega) (by omega) (by exact ⟨fun z => absurd z (by omega), fun z => (by rw [hm26]; exact zApu_s (ha.2 z) (by omega) (by omega) rfl rfl)⟩)
      · show wW (zK sc) zM197 110 [(7, .inl (wl2i ((v >>> (wi2l (8 * ((x - 1) - k)) &&& 63)) &&& (Int64.ofInt 255)))), (0, .inr (.inr (.inl (some (34, 0))))), (1, .inl b), (2, .inr (.inl v)), (4, .inl x), (5, .inl t), (6, .inl k)] [] _ _ _
        refine ww_go 7 (pc' := 122) (L' := [(7, .inl (wl2i ((v >>> (wi2l (8 * ((x - 1) - k)) &&& 63)) &&& (Int64.ofInt 255)))), (0, .inr (.inr (.inl (some (34, 0))))), (1, .inl b), (2, .inr (.inl v)), (4, .inl x), (5, .inl t), (6, .inl k)]) (st' := []) (m' := wuI m 36 0 ((t + k).toNat) (wl2i ((v >>> (wi2l (8 * ((x - 1) - k)) &&& 63)) &&& (Int64.ofInt 255)))) (o := some ((0 < 1) ∧ (0 < 1 ∧ 0 ≤ t + k ∧ t + k < ((96 : Nat) : Int)))) rfl (show (0 < 1) ∧ (0 < 1 ∧ 0 ≤ t + k ∧ t + k < ((96 : Nat) : Int)) from by omega) ?_
        obtain ⟨m31, hm31⟩ : ∃ zq9 : wm, zq9 = wuI m 36 0 ((t + k).toNat) (wl2i ((v >>> (wi2l (8 * ((x - 1) - k)) &&& 63)) &&& (Int64.ofInt 255))) := ⟨_, rfl⟩
        rw [← hm31]
        have hGm31 : zB c m31 := by rw [hm31]; exact zB_wI rfl (show 0 ≤ wl2i ((v >>> (wi2l (8 * ((x - 1) - k)) &&& 63)) &&& (Int64.ofInt 255)) ∧ wl2i ((v >>> (wi2l (8 * ((x - 1) - k)) &&& 63)) &&& (Int64.ofInt 255)) ≤ 255 from by omega) hGm
        have hFm31 : zfr (fun k i j => (k = 34 ∧ j = 0) ∨ (k = 34 ∧ j = 1) ∨ (k = 34 ∧ j = 2) ∨ (k = 35 ∧ b = 0) ∨ (k = 36 ∧ b = 1)) m0 m31 := by rw [hm31]; exact zfr_wI hFm (show (36 = 34 ∧ ((t + k).toNat) = 0) ∨ (36 = 34 ∧ ((t + k).toNat) = 1) ∨ (36 = 34 ∧ ((t + k).toNat) = 2) ∨ (36 = 35 ∧ b = 0) ∨ (36 = 36 ∧ b = 1) from Or.inr (Or.inr (Or.inr (Or.inr ((show (36 = 36 ∧ b = 1) from by omega))))))
        have s32 : m31.1 36 0 ((t + k).toNat) = wl2i ((v >>> (wi2l (8 * ((x - 1) - k)) &&& 63)) &&& (Int64.ofInt 255)) := by rw [hm31]; exact wuI_self
        have w33 : m31.1 34 0 0 = m.1 34 0 0 := by rw [hm31]; rfl
        have w34 : m31.1 34 0 1 = m.1 34 0 1 := by rw [hm31]; rfl
        have w35 : m31.1 34 0 2 = m.1 34 0 2 := by rw [hm31]; rfl
        refine ww_go 3 (pc' := 80) (L' := [(6, .inl (k + 1)), (7, .inl (wl2i ((v >>> (wi2l (8 * ((x - 1) - k)) &&& 63)) &&& (Int64.ofInt 255)))), (0, .inr (.inr (.inl (some (34, 0))))), (1, .inl b), (2, .inr (.inl v)), (4, .inl x), (5, .inl t)]) (st' := []) (m' := m31) (o := none) rfl trivial ?_
        refine ww_sub (L := [(0, .inr (.inr (.inl (some (34, 0))))), (1, .inl b), (2, .inr (.inl v)), (4, .inl x), (5, .inl t), (6, .inl (k + 1))]) ⟨rfl, rfl, rfl, rfl, rfl, rfl, trivial⟩ rfl rfl ?_
        exact (ih _ (by omega)) t (k + 1) m31 rfl (zB_mono hGm31 (by omega)) hFm31 (by omega) (by omega) (by omega) (by exact ⟨fun z => (by rw [hm31]; exact zApu_s (ha.1 z) (by omega) (by omega) rfl rfl), fun z => absurd z (by omega)⟩)
set_option maxRecDepth 8000 in
/-- Mo.feed -/
theorem zs197 {sc : xSc} {n : Nat × Nat} {m0 : wm} {c : Int} (hc : 0 ≤ c ∧ c ≤ 1000000) (b : Int) (v : Int64) (x : Int) (hG : zB c m0) (h0 : 0 ≤ b ∧ b ≤ 1 ∧ -2147483648 ≤ x ∧ x ≤ 2147483647) : wX (zK sc) 197 [.inr (.inr (.inl (some (34, 0)))), .inl b, .inr (.inl v), .inl x] n m0 (wr (fun vv n1 m1 => ∃ r : Int, vv = some (.inl r) ∧ n = n1 ∧ zB c m1 ∧ zfr (fun k i j => (k = 34 ∧ j = 0) ∨ (k = 34 ∧ j = 1) ∨ (k = 34 ∧ j = 2) ∨ (k = 35 ∧ b = 0) ∨ (k = 36 ∧ b = 1)) m0 m1 ∧ (((m1.1 34 0 0 = 1 ∧ (x < 1 ∨ 8 < x) ∧ m1.1 34 0 1 = m0.1 34 0 1 ∧ m1.1 34 0 2 = m0.1 34 0 2) ∨ (m1.1 34 0 0 = 2 ∧ 1 ≤ x ∧ x ≤ 8 ∧ m1.1 34 0 1 = m0.1 34 0 1 ∧ m1.1 34 0 2 = m0.1 34 0 2 ∧ (b = 1 ∧ 96 < m0.1 34 0 2 + x ∨ b = 0 ∧ 6 < m0.1 34 0 1 + x)) ∨ (m1.1 34 0 0 = 0 ∧ 1 ≤ x ∧ x ≤ 8 ∧ (b = 1 ∧ m0.1 34 0 2 + x ≤ 96 ∧ r = m0.1 34 0 2 + x ∧ m1.1 34 0 2 = r ∧ m1.1 34 0 1 = m0.1 34 0 1 ∨ b = 0 ∧ m0.1 34 0 1 + x ≤ 6 ∧ r = m0.1 34 0 1 + x ∧ m1.1 34 0 1 = r ∧ m1.1 34 0 2 = m0.1 34 0 2))) ∧ (m1.1 34 0 0 = 0 → (b = 1 → zApd (m1.1 36 0) (m0.1 36 0) (m0.1 34 0 2) x v) ∧ (b = 0 → zApd (m1.1 35 0) (m0.1 35 0) (m0.1 34 0 1) x v)) ∧ (m1.1 34 0 0 ≠ 0 → zNH m1 = zNH m0 ∧ zDH m1 = zDH m0)))) := by
  refine wX_of (N := zM197) rfl (Nat.le_of_ble_eq_true rfl) ?_
  show wW (zK sc) zM197 0 [(0, .inr (.inr (.inl (some (34, 0))))), (1, .inl b), (2, .inr (.inl v)), (4, .inl x)] [] n m0 _
  have hF : zfr (fun k i j => (k = 34 ∧ j = 0) ∨ (k = 34 ∧ j = 1) ∨ (k = 34 ∧ j = 2) ∨ (k = 35 ∧ b = 0) ∨ (k = 36 ∧ b = 1)) m0 m0 := zfr_rf
  have q1 : 0 ≤ m0.1 34 0 1 ∧ m0.1 34 0 1 ≤ 6 := hG.1 34 _ rfl _ _
  have q2 : 0 ≤ m0.1 34 0 2 ∧ m0.1 34 0 2 ≤ 96 := hG.1 34 _ rfl _ _
  refine ww_go 4 (pc' := 6) (L' := [(0, .inr (.inr (.inl (some (34, 0))))), (1, .inl b), (2, .inr (.inl v)), (4, .inl x)]) (st' := [.inl 8, .inl 1, .inl x, .inr (.inr (.inl (some (34, 0))))]) (m' := m0) (o := none) rfl trivial ?_
  refine ww_call (vs := [.inl x, .inl 1, .inl 8]) (r := [.inr (.inr (.inl (some (34, 0))))]) (p := True) rfl rfl rfl rfl trivial (zs207 x 1 8 (by omega)) ?_
  rintro _ _ _ ⟨r1, rfl, rfl, rfl, hr2⟩
  show wW (zK sc) zM197 9 [(0, .inr (.inr (.inl (some (34, 0))))), (1, .inl b), (2, .inr (.inl v)), (4, .inl x)] [.inl r1, .inr (.inr (.inl (some (34, 0))))] _ _ _
  refine ww_if (t := 16) rfl rfl (by omega) (fun (h3 : r1 ≠ 0) => ?_) (fun (h3 : ¬ (r1 ≠ 0)) => ?_)
  · show wW (zK sc) zM197 16 [(0, .inr (.inr (.inl (some (34, 0))))), (1, .inl b), (2, .inr (.inl v)), (4, .inl x)] [.inr (.inr (.inl (some (34, 0))))] _ _ _
    refine ww_go 2 (pc' := 18) (L' := [(0, .inr (.inr (.inl (some (34, 0))))), (1, .inl b), (2, .inr (.inl v)), (4, .inl x)]) (st' := [.inl 1, .inl 0, .inr (.inr (.inl (some (34, 0))))]) (m' := m0) (o := none) rfl trivial ?_
    refine ww_call (vs := [.inr (.inr (.inl (some (34, 0)))), .inl 0, .inl 1]) (r := []) (p := 0 < 1) rfl rfl rfl rfl (show 0 < 1 from by omega) (zs196 (c := c) (by omega) 0 1 hG (by omega)) ?_
    rintro _ _ m6 ⟨r4, rfl, rfl, hGm6, hEm6, hr5⟩
    have hFm6 : zfr (fun k i j => (k = 34 ∧ j = 0) ∨ (k = 34 ∧ j = 1) ∨ (k = 34 ∧ j = 2) ∨ (k = 35 ∧ b = 0) ∨ (k = 36 ∧ b = 1)) m0 m6 := zfr_tr hF hEm6 (fun k i j z => Or.inl z)
    have w7 : m6.1 34 0 1 = m0.1 34 0 1 := (hEm6 34 0 1 (show ¬ ((34 = 34 ∧ 1 = 0)) from by omega)).1
    have w8 : m6.1 34 0 2 = m0.1 34 0 2 := (hEm6 34 0 2 (show ¬ ((34 = 34 ∧ 2 = 0)) from by omega)).1
    show wW (zK sc) zM197 21 [(0, .inr (.inr (.inl (some (34, 0))))), (1, .inl b), (2, .inr (.inl v)), (4, .inl x)] [.inl r4] _ _ _
    refine ww_if (t := 26) rfl rfl (by omega) (fun (h9 : r4 = 0) => ?_) (fun (h9 : ¬ (r4 = 0)) => ?_)
    · show wW (zK sc) zM197 26 [(0, .inr (.inr (.inl (some (34, 0))))), (1, .inl b), (2, .inr (.inl v)), (4, .inl x)] [] _ _ _
      refine ww_go 1 (pc' := 27) (L' := [(0, .inr (.inr (.inl (some (34, 0))))), (1, .inl b), (2, .inr (.inl v)), (4, .inl x)]) (st' := [.inl b]) (m' := m6) (o := none) rfl trivial ?_
      refine ww_if (t := 37) rfl rfl (by omega) (fun (h10 : b = 0) => ?_) (fun (h10 : ¬ (b = 0)) => ?_)
      · show wW (zK sc) zM197 37 [(0, .inr (.inr (.inl (some (34, 0))))), (1, .inl b), (2, .inr (.inl v)), (4, .inl x)] [] _ _ _
        have b11 : 0 ≤ m6.1 34 0 1 ∧ m6.1 34 0 1 ≤ 6 := hGm6.1 34 _ rfl _ _
        refine ww_go 8 (pc' := 50) (L' := [(5, .inl (m6.1 34 0 1)), (0, .inr (.inr (.inl (some (34, 0))))), (1, .inl b), (2, .inr (.inl v)), (4, .inl x)]) (st' := [.inl b, .inl ((m6.1 34 0 1) + x), .inr (.inr (.inl (some (34, 0))))]) (m' := m6) (o := some ((0 < 1))) rfl (show (0 < 1) from by omega) ?_
        refine ww_if (t := 58) rfl rfl (by omega) (fun (h12 : b = 0) => ?_) (fun (h12 : ¬ (b = 0)) => absurd (show b = 0 from by omega) h12)
        show wW (zK sc) zM197 58 [(5, .inl (m6.1 34 0 1)), (0, .inr (.inr (.inl (some (34, 0))))), (1, .inl b), (2, .inr (.inl v)), (4, .inl x)] [.inl ((m6.1 34 0 1) + x), .inr (.inr (.inl (some (34, 0))))] _ _ _
        refine ww_go 1 (pc' := 60) (L' := [(5, .inl (m6.1 34 0 1)), (0, .inr (.inr (.inl (some (34, 0))))), (1, .inl b), (2, .inr (.inl v)), (4, .inl x)]) (st' := [.inl 6, .inl ((m6.1 34 0 1) + x), .inr (.inr (.inl (some (34, 0))))]) (m' := m6) (o := none) rfl trivial ?_
        refine ww_ic (t := 67) rfl rfl (by omega) (fun (h13 : (m6.1 34 0 1) + x ≤ 6) => ?_) (fun (h13 : ¬ ((m6.1 34 0 1) + x ≤ 6)) => ?_)
        · show wW (zK sc) zM197 67 [(5, .inl (m6.1 34 0 1)), (0, .inr (.inr (.inl (some (34, 0))))), (1, .inl b), (2, .inr (.inl v)), (4, .inl x)] [.inr (.inr (.inl (some (34, 0))))] _ _ _
          refine ww_go 2 (pc' := 69) (L' := [(5, .inl (m6.1 34 0 1)), (0, .inr (.inr (.inl (some (34, 0))))), (1, .inl b), (2, .inr (.inl v)), (4, .inl x)]) (st' := [.inl 2, .inl 0, .inr (.inr (.inl (some (34, 0))))]) (m' := m6) (o := none) rfl trivial ?_
          refine ww_call (vs := [.inr (.inr (.inl (some (34, 0)))), .inl 0, .inl 2]) (r := []) (p := 0 < 1) rfl rfl rfl rfl (show 0 < 1 from by omega) (zs196 (c := c) (by omega) 0 2 hGm6 (by omega)) ?_
          rintro _ _ m16 ⟨r14, rfl, rfl, hGm16, hEm16, hr15⟩
          have hFm16 : zfr (fun k i j => (k = 34 ∧ j = 0) ∨ (k = 34 ∧ j = 1) ∨ (k = 34 ∧ j = 2) ∨ (k = 35 ∧ b = 0) ∨ (k = 36 ∧ b = 1)) m0 m16 := zfr_tr hFm6 hEm16 (fun k i j z => Or.inl z)
          have w17 : m16.1 34 0 1 = m6.1 34 0 1 := (hEm16 34 0 1 (show ¬ ((34 = 34 ∧ 1 = 0)) from by omega)).1
          have w18 : m16.1 34 0 2 = m6.1 34 0 2 := (hEm16 34 0 2 (show ¬ ((34 = 34 ∧ 2 = 0)) from by omega)).1
          show wW (zK sc) zM197 72 [(5, .inl (m6.1 34 0 1)), (0, .inr (.inr (.inl (some (34, 0))))), (1, .inl b), (2, .inr (.inl v)), (4, .inl x)] [.inl r14] _ _ _
          refine ww_if (t := 77) rfl rfl (by omega) (fun (h19 : r14 = 0) => ?_) (fun (h19 : ¬ (r14 = 0)) => ?_)
          · show wW (zK sc) zM197 77 [(5, .inl (m6.1 34 0 1)), (0, .inr (.inr (.inl (some (34, 0))))), (1, .inl b), (2, .inr (.inl v)), (4, .inl x)] [] _ _ _
            refine ww_go 2 (pc' := 80) (L' := [(6, .inl 0), (5, .inl (m6.1 34 0 1)), (0, .inr (.inr (.inl (some (34, 0))))), (1, .inl b), (2, .inr (.inl v)), (4, .inl x)]) (st' := []) (m' := m16) (o := none) rfl trivial ?_
            refine ww_sub (L := [(0, .inr (.inr (.inl (some (34, 0))))), (1, .inl b), (2, .inr (.inl v)), (4, .inl x), (5, .inl (m6.1 34 0 1)), (6, .inl 0)]) ⟨rfl, rfl, rfl, rfl, rfl, rfl, trivial⟩ rfl rfl ?_
            exact (zs197_l80 hc b v x hG h0 _) (m6.1 34 0 1) 0 m16 rfl (zB_mono hGm16 (by omega)) hFm16 (by omega) (by omega) (by omega) (by exact ⟨fun _ => (by rw [show m16.1 36 0 = m6.1 36 0 from by funext j; exact (hEm16 36 0 j (show ¬ ((36 = 34 ∧ j = 0)) from by omega)).1]; rw [show m6.1 36 0 = m0.1 36 0 from by funext j; exact (hEm6 36 0 j (show ¬ ((36 = 34 ∧ j = 0)) from by omega)).1]; exact zApu_0), fun _ => (by rw [show m16.1 35 0 = m6.1 35 0 from by funext j; exact (hEm16 35 0 j (show ¬ ((35 = 34 ∧ j = 0)) from by omega)).1]; rw [show m6.1 35 0 = m0.1 35 0 from by funext j; exact (hEm6 35 0 j (show ¬ ((35 = 34 ∧ j = 0)) from by omega)).1]; exact zApu_0)⟩)
          · show wW (zK sc) zM197 75 [(5, .inl (m6.1 34 0 1)), (0, .inr (.inr (.inl (some (34, 0))))), (1, .inl b), (2, .inr (.inl v)), (4, .inl x)] [] _ _ _
            refine ww_go 1 (pc' := 76) (L' := [(5, .inl (m6.1 34 0 1)), (0, .inr (.inr (.inl (some (34, 0))))), (1, .inl b), (2, .inr (.inl v)), (4, .inl x)]) (st' := [.inl 0]) (m' := m16) (o := none) rfl trivial ?_
            exact ww_rI rfl rfl ⟨_, rfl, rfl, zB_mono hGm16 (by omega), hFm16, ⟨by omega, fun z => absurd z (by omega), fun _ => ⟨(zNH_fr hEm16 (show ¬ ((34 = 34 ∧ 1 = 0)) from by omega) (fun j => (show ¬ ((35 = 34 ∧ j = 0)) from by omega))).trans ((zNH_fr hEm6 (show ¬ ((34 = 34 ∧ 1 = 0)) from by omega) (fun j => (show ¬ ((35 = 34 ∧ j = 0)) from by omega))).trans (rfl)), (zDH_fr hEm16 (show ¬ ((34 = 34 ∧ 2 = 0)) from by omega) (fun j => (show ¬ ((36 = 34 ∧ j = 0)) from by omega))).trans ((zDH_fr hEm6 (show ¬ ((34 = 34 ∧ 2 = 0)) from by omega) (fun j => (show ¬ ((36 = 34 ∧ j = 0)) from by omega))).trans (rfl))⟩⟩⟩
        · show wW (zK sc) zM197 63 [(5, .inl (m6.1 34 0 1)), (0, .inr (.inr (.inl (some (34, 0))))), (1, .inl b), (2, .inr (.inl v)), (4, .inl x)] [.inr (.inr (.inl (some (34, 0))))] _ _ _
          refine ww_go 3 (pc' := 69) (L' := [(5, .inl (m6.1 34 0 1)), (0, .inr (.inr (.inl (some (34, 0))))), (1, .inl b), (2, .inr (.inl v)), (4, .inl x)]) (st' := [.inl 2, .inl 1, .inr (.inr (.inl (some (34, 0))))]) (m' := m6) (o := none) rfl trivial ?_
          refine ww_call (vs := [.inr (.inr (.inl (some (34, 0)))), .inl 1, .inl 2]) (r := []) (p := 0 < 1) rfl rfl rfl rfl (show 0 < 1 from by omega) (zs196 (c := c) (by omega) 1 2 hGm6 (by omega)) ?_
          rintro _ _ m22 ⟨r20, rfl, rfl, hGm22, hEm22, hr21⟩
          have hFm22 : zfr (fun k i j => (k = 34 ∧ j = 0) ∨ (k = 34 ∧ j = 1) ∨ (k = 34 ∧ j = 2) ∨ (k = 35 ∧ b = 0) ∨ (k = 36 ∧ b = 1)) m0 m22 := zfr_tr hFm6 hEm22 (fun k i j z => Or.inl z)
          have w23 : m22.1 34 0 1 = m6.1 34 0 1 := (hEm22 34 0 1 (show ¬ ((34 = 34 ∧ 1 = 0)) from by omega)).1
          have w24 : m22.1 34 0 2 = m6.1 34 0 2 := (hEm22 34 0 2 (show ¬ ((34 = 34 ∧ 2 = 0)) from by omega)).1
          show wW (zK sc) zM197 72 [(5, .inl (m6.1 34 0 1)), (0, .inr (.inr (.inl (some (34, 0))))), (1, .inl b), (2, .inr (.inl v)), (4, .inl x)] [.inl r20] _ _ _
          refine ww_if (t := 77) rfl rfl (by omega) (fun (h25 : r20 = 0) => ?_) (fun (h25 : ¬ (r20 = 0)) => ?_)
          · show wW (zK sc) zM197 77 [(5, .inl (m6.1 34 0 1)), (0, .inr (.inr (.inl (some (34, 0))))), (1, .inl b), (2, .inr (.inl v)), (4, .inl x)] [] _ _ _
            refine ww_go 2 (pc' := 80) (L' := [(6, .inl 0), (5, .inl (m6.1 34 0 1)), (0, .inr (.inr (.inl (some (34, 0))))), (1, .inl b), (2, .inr (.inl v)), (4, .inl x)]) (st' := []) (m' := m22) (o := none) rfl trivial ?_
            refine ww_sub (L := [(0, .inr (.inr (.inl (some (34, 0))))), (1, .inl b), (2, .inr (.inl v)), (4, .inl x), (5, .inl (m6.1 34 0 1)), (6, .inl 0)]) ⟨rfl, rfl, rfl, rfl, rfl, rfl, trivial⟩ rfl rfl ?_
            exact (zs197_l80 hc b v x hG h0 _) (m6.1 34 0 1) 0 m22 rfl (zB_mono hGm22 (by omega)) hFm22 (by omega) (by omega) (by omega) (by exact ⟨fun _ => (by rw [show m22.1 36 0 = m6.1 36 0 from by funext j; exact (hEm22 36 0 j (show ¬ ((36 = 34 ∧ j = 0)) from by omega)).1]; rw [show m6.1 36 0 = m0.1 36 0 from by funext j; exact (hEm6 36 0 j (show ¬ ((36 = 34 ∧ j = 0)) from by omega)).1]; exact zApu_0), fun _ => (by rw [show m22.1 35 0 = m6.1 35 0 from by funext j; exact (hEm22 35 0 j (show ¬ ((35 = 34 ∧ j = 0)) from by omega)).1]; rw [show m6.1 35 0 = m0.1 35 0 from by funext j; exact (hEm6 35 0 j (show ¬ ((35 = 34 ∧ j = 0)) from by omega)).1]; exact zApu_0)⟩)
          · show wW (zK sc) zM197 75 [(5, .inl (m6.1 34 0 1)), (0, .inr (.inr (.inl (some (34, 0))))), (1, .inl b), (2, .inr (.inl v)), (4, .inl x)] [] _ _ _
            refine ww_go 1 (pc' := 76) (L' := [(5, .inl (m6.1 34 0 1)), (0, .inr (.inr (.inl (some (34, 0))))), (1, .inl b), (2, .inr (.inl v)), (4, .inl x)]) (st' := [.inl 0]) (m' := m22) (o := none) rfl trivial ?_
            exact ww_rI rfl rfl ⟨_, rfl, rfl, zB_mono hGm22 (by omega), hFm22, ⟨by omega, fun z => absurd z (by omega), fun _ => ⟨(zNH_fr hEm22 (show ¬ ((34 = 34 ∧ 1 = 0)) from by omega) (fun j => (show ¬ ((35 = 34 ∧ j = 0)) from by omega))).trans ((zNH_fr hEm6 (show ¬ ((34 = 34 ∧ 1 = 0)) from by omega) (fun j => (show ¬ ((35 = 34 ∧ j = 0)) from by omega))).trans (rfl)), (zDH_fr hEm22 (show ¬ ((34 = 34 ∧ 2 = 0)) from by omega) (fun j => (show ¬ ((36 = 34 ∧ j = 0)) from by omega))).trans ((zDH_fr hEm6 (show ¬ ((34 = 34 ∧ 2 = 0)) from by omega) (fun j => (show ¬ ((36 = 34 ∧ j = 0)) from by omega))).trans (rfl))⟩⟩⟩
      · show wW (zK sc) zM197 30 [(0, .inr (.inr (.inl (some (34, 0))))), (1, .inl b), (2, .inr (.inl v)), (4, .inl x)] [] _ _ _
        have b26 : 0 ≤ m6.1 34 0 2 ∧ m6.1 34 0 2 ≤ 96 := hGm6.1 34 _ rfl _ _
        refine ww_go 9 (pc' := 50) (L' := [(5, .inl (m6.1 34 0 2)), (0, .inr (.inr (.inl (some (34, 0))))), (1, .inl b), (2, .inr (.inl v)), (4, .inl x)]) (st' := [.inl b, .inl ((m6.1 34 0 2) + x), .inr (.inr (.inl (some (34, 0))))]) (m' := m6) (o := some ((0 < 1))) rfl (show (0 < 1) from by omega) ?_
        refine ww_if (t := 58) rfl rfl (by omega) (fun (h27 : b = 0) => absurd h27 (by omega)) (fun (h27 : ¬ (b = 0)) => ?_)
        show wW (zK sc) zM197 53 [(5, .inl (m6.1 34 0 2)), (0, .inr (.inr (.inl (some (34, 0))))), (1, .inl b), (2, .inr (.inl v)), (4, .inl x)] [.inl ((m6.1 34 0 2) + x), .inr (.inr (.inl (some (34, 0))))] _ _ _
        refine ww_go 2 (pc' := 60) (L' := [(5, .inl (m6.1 34 0 2)), (0, .inr (.inr (.inl (some (34, 0))))), (1, .inl b), (2, .inr (.inl v)), (4, .inl x)]) (st' := [.inl 96, .inl ((m6.1 34 0 2) + x), .inr (.inr (.inl (some (34, 0))))]) (m' := m6) (o := none) rfl trivial ?_
        refine ww_ic (t := 67) rfl rfl (by omega) (fun (h28 : (m6.1 34 0 2) + x ≤ 96) => ?_) (fun (h28 : ¬ ((m6.1 34 0 2) + x ≤ 96)) => ?_)
        · show wW (zK sc) zM197 67 [(5, .inl (m6.1 34 0 2)), (0, .inr (.inr (.inl (some (34, 0))))), (1, .inl b), (2, .inr (.inl v)), (4, .inl x)] [.inr (.inr (.inl (some (34, 0))))] _ _ _
          refine ww_go 2 (pc' := 69) (L' := [(5, .inl (m6.1 34 0 2)), (0, .inr (.inr (.inl (some (34, 0))))), (1, .inl b), (2, .inr (.inl v)), (4, .inl x)]) (st' := [.inl 2, .inl 0, .inr (.inr (.inl (some (34, 0))))]) (m' := m6) (o := none) rfl trivial ?_
          refine ww_call (vs := [.inr (.inr (.inl (some (34, 0)))), .inl 0, .inl 2]) (r := []) (p := 0 < 1) rfl rfl rfl rfl (show 0 < 1 from by omega) (zs196 (c := c) (by omega) 0 2 hGm6 (by omega)) ?_
          rintro _ _ m31 ⟨r29, rfl, rfl, hGm31, hEm31, hr30⟩
          have hFm31 : zfr (fun k i j => (k = 34 ∧ j = 0) ∨ (k = 34 ∧ j = 1) ∨ (k = 34 ∧ j = 2) ∨ (k = 35 ∧ b = 0) ∨ (k = 36 ∧ b = 1)) m0 m31 := zfr_tr hFm6 hEm31 (fun k i j z => Or.inl z)
          have w32 : m31.1 34 0 1 = m6.1 34 0 1 := (hEm31 34 0 1 (show ¬ ((34 = 34 ∧ 1 = 0)) from by omega)).1
          have w33 : m31.1 34 0 2 = m6.1 34 0 2 := (hEm31 34 0 2 (show ¬ ((34 = 34 ∧ 2 = 0)) from by omega)).1
          show wW (zK sc) zM197 72 [(5, .inl (m6.1 34 0 2)), (0, .inr (.inr (.inl (some (34, 0))))), (1, .inl b), (2, .inr (.inl v)), (4, .inl x)] [.inl r29] _ _ _
          refine ww_if (t := 77) rfl rfl (by omega) (fun (h34 : r29 = 0) => ?_) (fun (h34 : ¬ (r29 = 0)) => ?_)
          · show wW (zK sc) zM197 77 [(5, .inl (m6.1 34 0 2)), (0, .inr (.inr (.inl (some (34, 0))))), (1, .inl b), (2, .inr (.inl v)), (4, .inl x)] [] _ _ _
            refine ww_go 2 (pc' := 80) (L' := [(6, .inl 0), (5, .inl (m6.1 34 0 2)), (0, .inr (.inr (.inl (some (34, 0))))), (1, .inl b), (2, .inr (.inl v)), (4, .inl x)]) (st' := []) (m' := m31) (o := none) rfl trivial ?_
            refine ww_sub (L := [(0, .inr (.inr (.inl (some (34, 0))))), (1, .inl b), (2, .inr (.inl v)), (4, .inl x), (5, .inl (m6.1 34 0 2)), (6, .inl 0)]) ⟨rfl, rfl, rfl, rfl, rfl, rfl, trivial⟩ rfl rfl ?_
            exact (zs197_l80 hc b v x hG h0 _) (m6.1 34 0 2) 0 m31 rfl (zB_mono hGm31 (by omega)) hFm31 (by omega) (by omega) (by omega) (by exact ⟨fun _ => (by rw [show m31.1 36 0 = m6.1 36 0 from by funext j; exact (hEm31 36 0 j (show ¬ ((36 = 34 ∧ j = 0)) from by omega)).1]; rw [show m6.1 36 0 = m0.1 36 0 from by funext j; exact (hEm6 36 0 j (show ¬ ((36 = 34 ∧ j = 0)) from by omega)).1]; exact zApu_0), fun _ => (by rw [show m31.1 35 0 = m6.1 35 0 from by funext j; exact (hEm31 35 0 j (show ¬ ((35 = 34 ∧ j = 0)) from by omega)).1]; rw [show m6.1 35 0 = m0.1 35 0 from by funext j; exact (hEm6 35 0 j (show ¬ ((35 = 34 ∧ j = 0)) from by omega)).1]; exact zApu_0)⟩)
          · show wW (zK sc) zM197 75 [(5, .inl (m6.1 34 0 2)), (0, .inr (.inr (.inl (some (34, 0))))), (1, .inl b), (2, .inr (.inl v)), (4, .inl x)] [] _ _ _
            refine ww_go 1 (pc' := 76) (L' := [(5, .inl (m6.1 34 0 2)), (0, .inr (.inr (.inl (some (34, 0))))), (1, .inl b), (2, .inr (.inl v)), (4, .inl x)]) (st' := [.inl 0]) (m' := m31) (o := none) rfl trivial ?_
            exact ww_rI rfl rfl ⟨_, rfl, rfl, zB_mono hGm31 (by omega), hFm31, ⟨by omega, fun z => absurd z (by omega), fun _ => ⟨(zNH_fr hEm31 (show ¬ ((34 = 34 ∧ 1 = 0)) from by omega) (fun j => (show ¬ ((35 = 34 ∧ j = 0)) from by omega))).trans ((zNH_fr hEm6 (show ¬ ((34 = 34 ∧ 1 = 0)) from by omega) (fun j => (show ¬ ((35 = 34 ∧ j = 0)) from by omega))).trans (rfl)), (zDH_fr hEm31 (show ¬ ((34 = 34 ∧ 2 = 0)) from by omega) (fun j => (show ¬ ((36 = 34 ∧ j = 0)) from by omega))).trans ((zDH_fr hEm6 (show ¬ ((34 = 34 ∧ 2 = 0)) from by omega) (fun j => (show ¬ ((36 = 34 ∧ j = 0)) from by omega))).trans (rfl))⟩⟩⟩
        · show wW (zK sc) zM197 63 [(5, .inl (m6.1 34 0 2)), (0, .inr (.inr (.inl (some (34, 0))))), (1, .inl b), (2, .inr (.inl v)), (4, .inl x)] [.inr (.inr (.inl (some (34, 0))))] _ _ _
          refine ww_go 3 (pc' := 69) (L' := [(5, .inl (m6.1 34 0 2)), (0, .inr (.inr (.inl (some (34, 0))))), (1, .inl b), (2, .inr (.inl v)), (4, .inl x)]) (st' := [.inl 2, .inl 1, .inr (.inr (.inl (some (34, 0))))]) (m' := m6) (o := none) rfl trivial ?_
          refine ww_call (vs := [.inr (.inr (.inl (some (34, 0)))), .inl 1, .inl 2]) (r := []) (p := 0 < 1) rfl rfl rfl rfl (show 0 < 1 from by omega) (zs196 (c := c) (by omega) 1 2 hGm6 (by omega)) ?_
          rintro _ _ m37 ⟨r35, rfl, rfl, hGm37, hEm37, hr36⟩
          have hFm37 : zfr (fun k i j => (k = 34 ∧ j = 0) ∨ (k = 34 ∧ j = 1) ∨ (k = 34 ∧ j = 2) ∨ (k = 35 ∧ b = 0) ∨ (k = 36 ∧ b = 1)) m0 m37 := zfr_tr hFm6 hEm37 (fun k i j z => Or.inl z)
          have w38 : m37.1 34 0 1 = m6.1 34 0 1 := (hEm37 34 0 1 (show ¬ ((34 = 34 ∧ 1 = 0)) from by omega)).1
          have w39 : m37.1 34 0 2 = m6.1 34 0 2 := (hEm37 34 0 2 (show ¬ ((34 = 34 ∧ 2 = 0)) from by omega)).1
          show wW (zK sc) zM197 72 [(5, .inl (m6.1 34 0 2)), (0, .inr (.inr (.inl (some (34, 0))))), (1, .inl b), (2, .inr (.inl v)), (4, .inl x)] [.inl r35] _ _ _
          refine ww_if (t := 77) rfl rfl (by omega) (fun (h40 : r35 = 0) => ?_) (fun (h40 : ¬ (r35 = 0)) => ?_)
          · show wW (zK sc) zM197 77 [(5, .inl (m6.1 34 0 2)), (0, .inr (.inr (.inl (some (34, 0))))), (1, .inl b), (2, .inr (.inl v)), (4, .inl x)] [] _ _ _
            refine ww_go 2 (pc' := 80) (L' := [(6, .inl 0), (5, .inl (m6.1 34 0 2)), (0, .inr (.inr (.inl (some (34, 0))))), (1, .inl b), (2, .inr (.inl v)), (4, .inl x)]) (st' := []) (m' := m37) (o := none) rfl trivial ?_
            refine ww_sub (L := [(0, .inr (.inr (.inl (some (34, 0))))), (1, .inl b), (2, .inr (.inl v)), (4, .inl x), (5, .inl (m6.1 34 0 2)), (6, .inl 0)]) ⟨rfl, rfl, rfl, rfl, rfl, rfl, trivial⟩ rfl rfl ?_
            exact (zs197_l80 hc b v x hG h0 _) (m6.1 34 0 2) 0 m37 rfl (zB_mono hGm37 (by omega)) hFm37 (by omega) (by omega) (by omega) (by exact ⟨fun _ => (by rw [show m37.1 36 0 = m6.1 36 0 from by funext j; exact (hEm37 36 0 j (show ¬ ((36 = 34 ∧ j = 0)) from by omega)).1]; rw [show m6.1 36 0 = m0.1 36 0 from by funext j; exact (hEm6 36 0 j (show ¬ ((36 = 34 ∧ j = 0)) from by omega)).1]; exact zApu_0), fun _ => (by rw [show m37.1 35 0 = m6.1 35 0 from by funext j; exact (hEm37 35 0 j (show ¬ ((35 = 34 ∧ j = 0)) from by omega)).1]; rw [show m6.1 35 0 = m0.1 35 0 from by funext j; exact (hEm6 35 0 j (show ¬ ((35 = 34 ∧ j = 0)) from by omega)).1]; exact zApu_0)⟩)
          · show wW (zK sc) zM197 75 [(5, .inl (m6.1 34 0 2)), (0, .inr (.inr (.inl (some (34, 0))))), (1, .inl b), (2, .inr (.inl v)), (4, .inl x)] [] _ _ _
            refine ww_go 1 (pc' := 76) (L' := [(5, .inl (m6.1 34 0 2)), (0, .inr (.inr (.inl (some (34, 0))))), (1, .inl b), (2, .inr (.inl v)), (4, .inl x)]) (st' := [.inl 0]) (m' := m37) (o := none) rfl trivial ?_
            exact ww_rI rfl rfl ⟨_, rfl, rfl, zB_mono hGm37 (by omega), hFm37, ⟨by omega, fun z => absurd z (by omega), fun _ => ⟨(zNH_fr hEm37 (show ¬ ((34 = 34 ∧ 1 = 0)) from by omega) (fun j => (show ¬ ((35 = 34 ∧ j = 0)) from by omega))).trans ((zNH_fr hEm6 (show ¬ ((34 = 34 ∧ 1 = 0)) from by omega) (fun j => (show ¬ ((35 = 34 ∧ j = 0)) from by omega))).trans (rfl)), (zDH_fr hEm37 (show ¬ ((34 = 34 ∧ 2 = 0)) from by omega) (fun j => (show ¬ ((36 = 34 ∧ j = 0)) from by omega))).trans ((zDH_fr hEm6 (show ¬ ((34 = 34 ∧ 2 = 0)) from by omega) (fun j => (show ¬ ((36 = 34 ∧ j = 0)) from by omega))).trans (rfl))⟩⟩⟩
    · show wW (zK sc) zM197 24 [(0, .inr (.inr (.inl (some (34, 0))))), (1, .inl b), (2, .inr (.inl v)), (4, .inl x)] [] _ _ _
      refine ww_go 1 (pc' := 25) (L' := [(0, .inr (.inr (.inl (some (34, 0))))), (1, .inl b), (2, .inr (.inl v)), (4, .inl x)]) (st' := [.inl 0]) (m' := m6) (o := none) rfl trivial ?_
      exact ww_rI rfl rfl ⟨_, rfl, rfl, zB_mono hGm6 (by omega), hFm6, ⟨by omega, fun z => absurd z (by omega), fun _ => ⟨(zNH_fr hEm6 (show ¬ ((34 = 34 ∧ 1 = 0)) from by omega) (fun j => (show ¬ ((35 = 34 ∧ j = 0)) from by omega))).trans (rfl), (zDH_fr hEm6 (show ¬ ((34 = 34 ∧ 2 = 0)) from by omega) (fun j => (show ¬ ((36 = 34 ∧ j = 0)) from by omega))).trans (rfl)⟩⟩⟩
  · show wW (zK sc) zM197 12 [(0, .inr (.inr (.inl (some (34, 0))))), (1, .inl b), (2, .inr (.inl v)), (4, .inl x)] [.inr (.inr (.inl (some (34, 0))))] _ _ _
    refine ww_go 3 (pc' := 18) (L' := [(0, .inr (.inr (.inl (some (34, 0))))), (1, .inl b), (2, .inr (.inl v)), (4, .inl x)]) (st' := [.inl 1, .inl 1, .inr (.inr (.inl (some (34, 0))))]) (m' := m0) (o := none) rfl trivial ?_
    refine ww_call (vs := [.inr (.inr (.inl (some (34, 0)))), .inl 1, .inl 1]) (r := []) (p := 0 < 1) rfl rfl rfl rfl (show 0 < 1 from by omega) (zs196 (c := c) (by omega) 1 1 hG (by omega)) ?_
    rintro _ _ m43 ⟨r41, rfl, rfl, hGm43, hEm43, hr42⟩
    have hFm43 : zfr (fun k i j => (k = 34 ∧ j = 0) ∨ (k = 34 ∧ j = 1) ∨ (k = 34 ∧ j = 2) ∨ (k = 35 ∧ b = 0) ∨ (k = 36 ∧ b = 1)) m0 m43 := zfr_tr hF hEm43 (fun k i j z => Or.inl z)
    have w44 : m43.1 34 0 1 = m0.1 34 0 1 := (hEm43 34 0 1 (show ¬ ((34 = 34 ∧ 1 = 0)) from by omega)).1
    have w45 : m43.1 34 0 2 = m0.1 34 0 2 := (hEm43 34 0 2 (show ¬ ((34 = 34 ∧ 2 = 0)) from by omega)).1
    show wW (zK sc) zM197 21 [(0, .inr (.inr (.inl (some (34, 0))))), (1, .inl b), (2, .inr (.inl v)), (4, .inl x)] [.inl r41] _ _ _
    refine ww_if (t := 26) rfl rfl (by omega) (fun (h46 : r41 = 0) => ?_) (fun (h46 : ¬ (r41 = 0)) => ?_)
    · show wW (zK sc) zM197 26 [(0, .inr (.inr (.inl (some (34, 0))))), (1, .inl b), (2, .inr (.inl v)), (4, .inl x)] [] _ _ _
      refine ww_go 1 (pc' := 27) (L' := [(0, .inr (.inr (.inl (some (34, 0))))), (1, .inl b), (2, .inr (.inl v)), (4, .inl x)]) (st' := [.inl b]) (m' := m43) (o := none) rfl trivial ?_
      refine ww_if (t := 37) rfl rfl (by omega) (fun (h47 : b = 0) => ?_) (fun (h47 : ¬ (b = 0)) => ?_)
      · show wW (zK sc) zM197 37 [(0, .inr (.inr (.inl (some (34, 0))))), (1, .inl b), (2, .inr (.inl v)), (4, .inl x)] [] _ _ _
        have b48 : 0 ≤ m43.1 34 0 1 ∧ m43.1 34 0 1 ≤ 6 := hGm43.1 34 _ rfl _ _
        refine ww_go 8 (pc' := 50) (L' := [(5, .inl (m43.1 34 0 1)), (0, .inr (.inr (.inl (some (34, 0))))), (1, .inl b), (2, .inr (.inl v)), (4, .inl x)]) (st' := [.inl b, .inl ((m43.1 34 0 1) + x), .inr (.inr (.inl (some (34, 0))))]) (m' := m43) (o := some ((0 < 1))) rfl (show (0 < 1) from by omega) ?_
        refine ww_if (t := 58) rfl rfl (by omega) (fun (h49 : b = 0) => ?_) (fun (h49 : ¬ (b = 0)) => absurd (show b = 0 from by omega) h49)
        show wW (zK sc) zM197 58 [(5, .inl (m43.1 34 0 1)), (0, .inr (.inr (.inl (some (34, 0))))), (1, .inl b), (2, .inr (.inl v)), (4, .inl x)] [.inl ((m43.1 34 0 1) + x), .inr (.inr (.inl (some (34, 0))))] _ _ _
        refine ww_go 1 (pc' := 60) (L' := [(5, .inl (m43.1 34 0 1)), (0, .inr (.inr (.inl (some (34, 0))))), (1, .inl b), (2, .inr (.inl v)), (4, .inl x)]) (st' := [.inl 6, .inl ((m43.1 34 0 1) + x), .inr (.inr (.inl (some (34, 0))))]) (m' := m43) (o := none) rfl trivial ?_
        refine ww_ic (t := 67) rfl rfl (by omega) (fun (h50 : (m43.1 34 0 1) + x ≤ 6) => ?_) (fun (h50 : ¬ ((m43.1 34 0 1) + x ≤ 6)) => ?_)
        · show wW (zK sc) zM197 67 [(5, .inl (m43.1 34 0 1)), (0, .inr (.inr (.inl (some (34, 0))))), (1, .inl b), (2, .inr (.inl v)), (4, .inl x)] [.inr (.inr (.inl (some (34, 0))))] _ _ _
          refine ww_go 2 (pc' := 69) (L' := [(5, .inl (m43.1 34 0 1)), (0, .inr (.inr (.inl (some (34, 0))))), (1, .inl b), (2, .inr (.inl v)), (4, .inl x)]) (st' := [.inl 2, .inl 0, .inr (.inr (.inl (some (34, 0))))]) (m' := m43) (o := none) rfl trivial ?_
          refine ww_call (vs := [.inr (.inr (.inl (some (34, 0)))), .inl 0, .inl 2]) (r := []) (p := 0 < 1) rfl rfl rfl rfl (show 0 < 1 from by omega) (zs196 (c := c) (by omega) 0 2 hGm43 (by omega)) ?_
          rintro _ _ m53 ⟨r51, rfl, rfl, hGm53, hEm53, hr52⟩
          have hFm53 : zfr (fun k i j => (k = 34 ∧ j = 0) ∨ (k = 34 ∧ j = 1) ∨ (k = 34 ∧ j = 2) ∨ (k = 35 ∧ b = 0) ∨ (k = 36 ∧ b = 1)) m0 m53 := zfr_tr hFm43 hEm53 (fun k i j z => Or.inl z)
          have w54 : m53.1 34 0 1 = m43.1 34 0 1 := (hEm53 34 0 1 (show ¬ ((34 = 34 ∧ 1 = 0)) from by omega)).1
          have w55 : m53.1 34 0 2 = m43.1 34 0 2 := (hEm53 34 0 2 (show ¬ ((34 = 34 ∧ 2 = 0)) from by omega)).1
          show wW (zK sc) zM197 72 [(5, .inl (m43.1 34 0 1)), (0, .inr (.inr (.inl (some (34, 0))))), (1, .inl b), (2, .inr (.inl v)), (4, .inl x)] [.inl r51] _ _ _
          refine ww_if (t := 77) rfl rfl (by omega) (fun (h56 : r51 = 0) => ?_) (fun (h56 : ¬ (r51 = 0)) => ?_)
          · show wW (zK sc) zM197 77 [(5, .inl (m43.1 34 0 1)), (0, .inr (.inr (.inl (some (34, 0))))), (1, .inl b), (2, .inr (.inl v)), (4, .inl x)] [] _ _ _
            refine ww_go 2 (pc' := 80) (L' := [(6, .inl 0), (5, .inl (m43.1 34 0 1)), (0, .inr (.inr (.inl (some (34, 0))))), (1, .inl b), (2, .inr (.inl v)), (4, .inl x)]) (st' := []) (m' := m53) (o := none) rfl trivial ?_
            refine ww_sub (L := [(0, .inr (.inr (.inl (some (34, 0))))), (1, .inl b), (2, .inr (.inl v)), (4, .inl x), (5, .inl (m43.1 34 0 1)), (6, .inl 0)]) ⟨rfl, rfl, rfl, rfl, rfl, rfl, trivial⟩ rfl rfl ?_
            exact (zs197_l80 hc b v x hG h0 _) (m43.1 34 0 1) 0 m53 rfl (zB_mono hGm53 (by omega)) hFm53 (by omega) (by omega) (by omega) (by exact ⟨fun _ => (by rw [show m53.1 36 0 = m43.1 36 0 from by funext j; exact (hEm53 36 0 j (show ¬ ((36 = 34 ∧ j = 0)) from by omega)).1]; rw [show m43.1 36 0 = m0.1 36 0 from by funext j; exact (hEm43 36 0 j (show ¬ ((36 = 34 ∧ j = 0)) from by omega)).1]; exact zApu_0), fun _ => (by rw [show m53.1 35 0 = m43.1 35 0 from by funext j; exact (hEm53 35 0 j (show ¬ ((35 = 34 ∧ j = 0)) from by omega)).1]; rw [show m43.1 35 0 = m0.1 35 0 from by funext j; exact (hEm43 35 0 j (show ¬ ((35 = 34 ∧ j = 0)) from by omega)).1]; exact zApu_0)⟩)
          · show wW (zK sc) zM197 75 [(5, .inl (m43.1 34 0 1)), (0, .inr (.inr (.inl (some (34, 0))))), (1, .inl b), (2, .inr (.inl v)), (4, .inl x)] [] _ _ _
            refine ww_go 1 (pc' := 76) (L' := [(5, .inl (m43.1 34 0 1)), (0, .inr (.inr (.inl (some (34, 0))))), (1, .inl b), (2, .inr (.inl v)), (4, .inl x)]) (st' := [.inl 0]) (m' := m53) (o := none) rfl trivial ?_
            exact ww_rI rfl rfl ⟨_, rfl, rfl, zB_mono hGm53 (by omega), hFm53, ⟨by omega, fun z => absurd z (by omega), fun _ => ⟨(zNH_fr hEm53 (show ¬ ((34 = 34 ∧ 1 = 0)) from by omega) (fun j => (show ¬ ((35 = 34 ∧ j = 0)) from by omega))).trans ((zNH_fr hEm43 (show ¬ ((34 = 34 ∧ 1 = 0)) from by omega) (fun j => (show ¬ ((35 = 34 ∧ j = 0)) from by omega))).trans (rfl)), (zDH_fr hEm53 (show ¬ ((34 = 34 ∧ 2 = 0)) from by omega) (fun j => (show ¬ ((36 = 34 ∧ j = 0)) from by omega))).trans ((zDH_fr hEm43 (show ¬ ((34 = 34 ∧ 2 = 0)) from by omega) (fun j => (show ¬ ((36 = 34 ∧ j = 0)) from by omega))).trans (rfl))⟩⟩⟩
        · show wW (zK sc) zM197 63 [(5, .inl (m43.1 34 0 1)), (0, .inr (.inr (.inl (some (34, 0))))), (1, .inl b), (2, .inr (.inl v)), (4, .inl x)] [.inr (.inr (.inl (some (34, 0))))] _ _ _
          refine ww_go 3 (pc' := 69) (L' := [(5, .inl (m43.1 34 0 1)), (0, .inr (.inr (.inl (some (34, 0))))), (1, .inl b), (2, .inr (.inl v)), (4, .inl x)]) (st' := [.inl 2, .inl 1, .inr (.inr (.inl (some (34, 0))))]) (m' := m43) (o := none) rfl trivial ?_
          refine ww_call (vs := [.inr (.inr (.inl (some (34, 0)))), .inl 1, .inl 2]) (r := []) (p := 0 < 1) rfl rfl rfl rfl (show 0 < 1 from by omega) (zs196 (c := c) (by omega) 1 2 hGm43 (by omega)) ?_
          rintro _ _ m59 ⟨r57, rfl, rfl, hGm59, hEm59, hr58⟩
          have hFm59 : zfr (fun k i j => (k = 34 ∧ j = 0) ∨ (k = 34 ∧ j = 1) ∨ (k = 34 ∧ j = 2) ∨ (k = 35 ∧ b = 0) ∨ (k = 36 ∧ b = 1)) m0 m59 := zfr_tr hFm43 hEm59 (fun k i j z => Or.inl z)
          have w60 : m59.1 34 0 1 = m43.1 34 0 1 := (hEm59 34 0 1 (show ¬ ((34 = 34 ∧ 1 = 0)) from by omega)).1
          have w61 : m59.1 34 0 2 = m43.1 34 0 2 := (hEm59 34 0 2 (show ¬ ((34 = 34 ∧ 2 = 0)) from by omega)).1
          show wW (zK sc) zM197 72 [(5, .inl (m43.1 34 0 1)), (0, .inr (.inr (.inl (some (34, 0))))), (1, .inl b), (2, .inr (.inl v)), (4, .inl x)] [.inl r57] _ _ _
          refine ww_if (t := 77) rfl rfl (by omega) (fun (h62 : r57 = 0) => ?_) (fun (h62 : ¬ (r57 = 0)) => ?_)
          · show wW (zK sc) zM197 77 [(5, .inl (m43.1 34 0 1)), (0, .inr (.inr (.inl (some (34, 0))))), (1, .inl b), (2, .inr (.inl v)), (4, .inl x)] [] _ _ _
            refine ww_go 2 (pc' := 80) (L' := [(6, .inl 0), (5, .inl (m43.1 34 0 1)), (0, .inr (.inr (.inl (some (34, 0))))), (1, .inl b), (2, .inr (.inl v)), (4, .inl x)]) (st' := []) (m' := m59) (o := none) rfl trivial ?_
            refine ww_sub (L := [(0, .inr (.inr (.inl (some (34, 0))))), (1, .inl b), (2, .inr (.inl v)), (4, .inl x), (5, .inl (m43.1 34 0 1)), (6, .inl 0)]) ⟨rfl, rfl, rfl, rfl, rfl, rfl, trivial⟩ rfl rfl ?_
            exact (zs197_l80 hc b v x hG h0 _) (m43.1 34 0 1) 0 m59 rfl (zB_mono hGm59 (by omega)) hFm59 (by omega) (by omega) (by omega) (by exact ⟨fun _ => (by rw [show m59.1 36 0 = m43.1 36 0 from by funext j; exact (hEm59 36 0 j (show ¬ ((36 = 34 ∧ j = 0)) from by omega)).1]; rw [show m43.1 36 0 = m0.1 36 0 from by funext j; exact (hEm43 36 0 j (show ¬ ((36 = 34 ∧ j = 0)) from by omega)).1]; exact zApu_0), fun _ => (by rw [show m59.1 35 0 = m43.1 35 0 from by funext j; exact (hEm59 35 0 j (show ¬ ((35 = 34 ∧ j = 0)) from by omega)).1]; rw [show m43.1 35 0 = m0.1 35 0 from by funext j; exact (hEm43 35 0 j (show ¬ ((35 = 34 ∧ j = 0)) from by omega)).1]; exact zApu_0)⟩)
          · show wW (zK sc) zM197 75 [(5, .inl (m43.1 34 0 1)), (0, .inr (.inr (.inl (some (34, 0))))), (1, .inl b), (2, .inr (.inl v)), (4, .inl x)] [] _ _ _
            refine ww_go 1 (pc' := 76) (L' := [(5, .inl (m43.1 34 0 1)), (0, .inr (.inr (.inl (some (34, 0))))), (1, .inl b), (2, .inr (.inl v)), (4, .inl x)]) (st' := [.inl 0]) (m' := m59) (o := none) rfl trivial ?_
            exact ww_rI rfl rfl ⟨_, rfl, rfl, zB_mono hGm59 (by omega), hFm59, ⟨by omega, fun z => absurd z (by omega), fun _ => ⟨(zNH_fr hEm59 (show ¬ ((34 = 34 ∧ 1 = 0)) from by omega) (fun j => (show ¬ ((35 = 34 ∧ j = 0)) from by omega))).trans ((zNH_fr hEm43 (show ¬ ((34 = 34 ∧ 1 = 0)) from by omega) (fun j => (show ¬ ((35 = 34 ∧ j = 0)) from by omega))).trans (rfl)), (zDH_fr hEm59 (show ¬ ((34 = 34 ∧ 2 = 0)) from by omega) (fun j => (show ¬ ((36 = 34 ∧ j = 0)) from by omega))).trans ((zDH_fr hEm43 (show ¬ ((34 = 34 ∧ 2 = 0)) from by omega) (fun j => (show ¬ ((36 = 34 ∧ j = 0)) from by omega))).trans (rfl))⟩⟩⟩
      · show wW (zK sc) zM197 30 [(0, .inr (.inr (.inl (some (34, 0))))), (1, .inl b), (2, .inr (.inl v)), (4, .inl x)] [] _ _ _
        have b63 : 0 ≤ m43.1 34 0 2 ∧ m43.1 34 0 2 ≤ 96 := hGm43.1 34 _ rfl _ _
        refine ww_go 9 (pc' := 50) (L' := [(5, .inl (m43.1 34 0 2)), (0, .inr (.inr (.inl (some (34, 0))))), (1, .inl b), (2, .inr (.inl v)), (4, .inl x)]) (st' := [.inl b, .inl ((m43.1 34 0 2) + x), .inr (.inr (.inl (some (34, 0))))]) (m' := m43) (o := some ((0 < 1))) rfl (show (0 < 1) from by omega) ?_
        refine ww_if (t := 58) rfl rfl (by omega) (fun (h64 : b = 0) => absurd h64 (by omega)) (fun (h64 : ¬ (b = 0)) => ?_)
        show wW (zK sc) zM197 53 [(5, .inl (m43.1 34 0 2)), (0, .inr (.inr (.inl (some (34, 0))))), (1, .inl b), (2, .inr (.inl v)), (4, .inl x)] [.inl ((m43.1 34 0 2) + x), .inr (.inr (.inl (some (34, 0))))] _ _ _
        refine ww_go 2 (pc' := 60) (L' := [(5, .inl (m43.1 34 0 2)), (0, .inr (.inr (.inl (some (34, 0))))), (1, .inl b), (2, .inr (.inl v)), (4, .inl x)]) (st' := [.inl 96, .inl ((m43.1 34 0 2) + x), .inr (.inr (.inl (some (34, 0))))]) (m' := m43) (o := none) rfl trivial ?_
        refine ww_ic (t := 67) rfl rfl (by omega) (fun (h65 : (m43.1 34 0 2) + x ≤ 96) => ?_) (fun (h65 : ¬ ((m43.1 34 0 2) + x ≤ 96)) => ?_)
        · show wW (zK sc) zM197 67 [(5, .inl (m43.1 34 0 2)), (0, .inr (.inr (.inl (some (34, 0))))), (1, .inl b), (2, .inr (.inl v)), (4, .inl x)] [.inr (.inr (.inl (some (34, 0))))] _ _ _
          refine ww_go 2 (pc' := 69) (L' := [(5, .inl (m43.1 34 0 2)), (0, .inr (.inr (.inl (some (34, 0))))), (1, .inl b), (2, .inr (.inl v)), (4, .inl x)]) (st' := [.inl 2, .inl 0, .inr (.inr (.inl (some (34, 0))))]) (m' := m43) (o := none) rfl trivial ?_
          refine ww_call (vs := [.inr (.inr (.inl (some (34, 0)))), .inl 0, .inl 2]) (r := []) (p := 0 < 1) rfl rfl rfl rfl (show 0 < 1 from by omega) (zs196 (c := c) (by omega) 0 2 hGm43 (by omega)) ?_
          rintro _ _ m68 ⟨r66, rfl, rfl, hGm68, hEm68, hr67⟩
          have hFm68 : zfr (fun k i j => (k = 34 ∧ j = 0) ∨ (k = 34 ∧ j = 1) ∨ (k = 34 ∧ j = 2) ∨ (k = 35 ∧ b = 0) ∨ (k = 36 ∧ b = 1)) m0 m68 := zfr_tr hFm43 hEm68 (fun k i j z => Or.inl z)
          have w69 : m68.1 34 0 1 = m43.1 34 0 1 := (hEm68 34 0 1 (show ¬ ((34 = 34 ∧ 1 = 0)) from by omega)).1
          have w70 : m68.1 34 0 2 = m43.1 34 0 2 := (hEm68 34 0 2 (show ¬ ((34 = 34 ∧ 2 = 0)) from by omega)).1
          show wW (zK sc) zM197 72 [(5, .inl (m43.1 34 0 2)), (0, .inr (.inr (.inl (some (34, 0))))), (1, .inl b), (2, .inr (.inl v)), (4, .inl x)] [.inl r66] _ _ _
          refine ww_if (t := 77) rfl rfl (by omega) (fun (h71 : r66 = 0) => ?_) (fun (h71 : ¬ (r66 = 0)) => ?_)
          · show wW (zK sc) zM197 77 [(5, .inl (m43.1 34 0 2)), (0, .inr (.inr (.inl (some (34, 0))))), (1, .inl b), (2, .inr (.inl v)), (4, .inl x)] [] _ _ _
            refine ww_go 2 (pc' := 80) (L' := [(6, .inl 0), (5, .inl (m43.1 34 0 2)), (0, .inr (.inr (.inl (some (34, 0))))), (1, .inl b), (2, .inr (.inl v)), (4, .inl x)]) (st' := []) (m' := m68) (o := none) rfl trivial ?_
            refine ww_sub (L := [(0, .inr (.inr (.inl (some (34, 0))))), (1, .inl b), (2, .inr (.inl v)), (4, .inl x), (5, .inl (m43.1 34 0 2)), (6, .inl 0)]) ⟨rfl, rfl, rfl, rfl, rfl, rfl, trivial⟩ rfl rfl ?_
            exact (zs197_l80 hc b v x hG h0 _) (m43.1 34 0 2) 0 m68 rfl (zB_mono hGm68 (by omega)) hFm68 (by omega) (by omega) (by omega) (by exact ⟨fun _ => (by rw [show m68.1 36 0 = m43.1 36 0 from by funext j; exact (hEm68 36 0 j (show ¬ ((36 = 34 ∧ j = 0)) from by omega)).1]; rw [show m43.1 36 0 = m0.1 36 0 from by funext j; exact (hEm43 36 0 j (show ¬ ((36 = 34 ∧ j = 0)) from by omega)).1]; exact zApu_0), fun _ => (by rw [show m68.1 35 0 = m43.1 35 0 from by funext j; exact (hEm68 35 0 j (show ¬ ((35 = 34 ∧ j = 0)) from by omega)).1]; rw [show m43.1 35 0 = m0.1 35 0 from by funext j; exact (hEm43 35 0 j (show ¬ ((35 = 34 ∧ j = 0)) from by omega)).1]; exact zApu_0)⟩)
          · show wW (zK sc) zM197 75 [(5, .inl (m43.1 34 0 2)), (0, .inr (.inr (.inl (some (34, 0))))), (1, .inl b), (2, .inr (.inl v)), (4, .inl x)] [] _ _ _
            refine ww_go 1 (pc' := 76) (L' := [(5, .inl (m43.1 34 0 2)), (0, .inr (.inr (.inl (some (34, 0))))), (1, .inl b), (2, .inr (.inl v)), (4, .inl x)]) (st' := [.inl 0]) (m' := m68) (o := none) rfl trivial ?_
            exact ww_rI rfl rfl ⟨_, rfl, rfl, zB_mono hGm68 (by omega), hFm68, ⟨by omega, fun z => absurd z (by omega), fun _ => ⟨(zNH_fr hEm68 (show ¬ ((34 = 34 ∧ 1 = 0)) from by omega) (fun j => (show ¬ ((35 = 34 ∧ j = 0)) from by omega))).trans ((zNH_fr hEm43 (show ¬ ((34 = 34 ∧ 1 = 0)) from by omega) (fun j => (show ¬ ((35 = 34 ∧ j = 0)) from by omega))).trans (rfl)), (zDH_fr hEm68 (show ¬ ((34 = 34 ∧ 2 = 0)) from by omega) (fun j => (show ¬ ((36 = 34 ∧ j = 0)) from by omega))).trans ((zDH_fr hEm43 (show ¬ ((34 = 34 ∧ 2 = 0)) from by omega) (fun j => (show ¬ ((36 = 34 ∧ j = 0)) from by omega))).trans (rfl))⟩⟩⟩
        · show wW (zK sc) zM197 63 [(5, .inl (m43.1 34 0 2)), (0, .inr (.inr (.inl (some (34, 0))))), (1, .inl b), (2, .inr (.inl v)), (4, .inl x)] [.inr (.inr (.inl (some (34, 0))))] _ _ _
          refine ww_go 3 (pc' := 69) (L' := [(5, .inl (m43.1 34 0 2)), (0, .inr (.inr (.inl (some (34, 0))))), (1, .inl b), (2, .inr (.inl v)), (4, .inl x)]) (st' := [.inl 2, .inl 1, .inr (.inr (.inl (some (34, 0))))]) (m' := m43) (o := none) rfl trivial ?_
          refine ww_call (vs := [.inr (.inr (.inl (some (34, 0)))), .inl 1, .inl 2]) (r := []) (p := 0 < 1) rfl rfl rfl rfl (show 0 < 1 from by omega) (zs196 (c := c) (by omega) 1 2 hGm43 (by omega)) ?_
          rintro _ _ m74 ⟨r72, rfl, rfl, hGm74, hEm74, hr73⟩
          have hFm74 : zfr (fun k i j => (k = 34 ∧ j = 0) ∨ (k = 34 ∧ j = 1) ∨ (k = 34 ∧ j = 2) ∨ (k = 35 ∧ b = 0) ∨ (k = 36 ∧ b = 1)) m0 m74 := zfr_tr hFm43 hEm74 (fun k i j z => Or.inl z)
          have w75 : m74.1 34 0 1 = m43.1 34 0 1 := (hEm74 34 0 1 (show ¬ ((34 = 34 ∧ 1 = 0)) from by omega)).1
          have w76 : m74.1 34 0 2 = m43.1 34 0 2 := (hEm74 34 0 2 (show ¬ ((34 = 34 ∧ 2 = 0)) from by omega)).1
          show wW (zK sc) zM197 72 [(5, .inl (m43.1 34 0 2)), (0, .inr (.inr (.inl (some (34, 0))))), (1, .inl b), (2, .inr (.inl v)), (4, .inl x)] [.inl r72] _ _ _
          refine ww_if (t := 77) rfl rfl (by omega) (fun (h77 : r72 = 0) => ?_) (fun (h77 : ¬ (r72 = 0)) => ?_)
          · show wW (zK sc) zM197 77 [(5, .inl (m43.1 34 0 2)), (0, .inr (.inr (.inl (some (34, 0))))), (1, .inl b), (2, .inr (.inl v)), (4, .inl x)] [] _ _ _
            refine ww_go 2 (pc' := 80) (L' := [(6, .inl 0), (5, .inl (m43.1 34 0 2)), (0, .inr (.inr (.inl (some (34, 0))))), (1, .inl b), (2, .inr (.inl v)), (4, .inl x)]) (st' := []) (m' := m74) (o := none) rfl trivial ?_
            refine ww_sub (L := [(0, .inr (.inr (.inl (some (34, 0))))), (1, .inl b), (2, .inr (.inl v)), (4, .inl x), (5, .inl (m43.1 34 0 2)), (6, .inl 0)]) ⟨rfl, rfl, rfl, rfl, rfl, rfl, trivial⟩ rfl rfl ?_
            exact (zs197_l80 hc b v x hG h0 _) (m43.1 34 0 2) 0 m74 rfl (zB_mono hGm74 (by omega)) hFm74 (by omega) (by omega) (by omega) (by exact ⟨fun _ => (by rw [show m74.1 36 0 = m43.1 36 0 from by funext j; exact (hEm74 36 0 j (show ¬ ((36 = 34 ∧ j = 0)) from by omega)).1]; rw [show m43.1 36 0 = m0.1 36 0 from by funext j; exact (hEm43 36 0 j (show ¬ ((36 = 34 ∧ j = 0)) from by omega)).1]; exact zApu_0), fun _ => (by rw [show m74.1 35 0 = m43.1 35 0 from by funext j; exact (hEm74 35 0 j (show ¬ ((35 = 34 ∧ j = 0)) from by omega)).1]; rw [show m43.1 35 0 = m0.1 35 0 from by funext j; exact (hEm43 35 0 j (show ¬ ((35 = 34 ∧ j = 0)) from by omega)).1]; exact zApu_0)⟩)
          · show wW (zK sc) zM197 75 [(5, .inl (m43.1 34 0 2)), (0, .inr (.inr (.inl (some (34, 0))))), (1, .inl b), (2, .inr (.inl v)), (4, .inl x)] [] _ _ _
            refine ww_go 1 (pc' := 76) (L' := [(5, .inl (m43.1 34 0 2)), (0, .inr (.inr (.inl (some (34, 0))))), (1, .inl b), (2, .inr (.inl v)), (4, .inl x)]) (st' := [.inl 0]) (m' := m74) (o := none) rfl trivial ?_
            exact ww_rI rfl rfl ⟨_, rfl, rfl, zB_mono hGm74 (by omega), hFm74, ⟨by omega, fun z => absurd z (by omega), fun _ => ⟨(zNH_fr hEm74 (show ¬ ((34 = 34 ∧ 1 = 0)) from by omega) (fun j => (show ¬ ((35 = 34 ∧ j = 0)) from by omega))).trans ((zNH_fr hEm43 (show ¬ ((34 = 34 ∧ 1 = 0)) from by omega) (fun j => (show ¬ ((35 = 34 ∧ j = 0)) from by omega))).trans (rfl)), (zDH_fr hEm74 (show ¬ ((34 = 34 ∧ 2 = 0)) from by omega) (fun j => (show ¬ ((36 = 34 ∧ j = 0)) from by omega))).trans ((zDH_fr hEm43 (show ¬ ((34 = 34 ∧ 2 = 0)) from by omega) (fun j => (show ¬ ((36 = 34 ∧ j = 0)) from by omega))).trans (rfl))⟩⟩⟩
    · show wW (zK sc) zM197 24 [(0, .inr (.inr (.inl (some (34, 0))))), (1, .inl b), (2, .inr (.inl v)), (4, .inl x)] [] _ _ _
      refine ww_go 1 (pc' := 25) (L' := [(0, .inr (.inr (.inl (some (34, 0))))), (1, .inl b), (2, .inr (.inl v)), (4, .inl x)]) (st' := [.inl 0]) (m' := m43) (o := none) rfl trivial ?_
      exact ww_rI rfl rfl ⟨_, rfl, rfl, zB_mono hGm43 (by omega), hFm43, ⟨by omega, fun z => absurd z (by omega), fun _ => ⟨(zNH_fr hEm43 (show ¬ ((34 = 34 ∧ 1 = 0)) from by omega) (fun j => (show ¬ ((35 = 34 ∧ j = 0)) from by omega))).trans (rfl), (zDH_fr hEm43 (show ¬ ((34 = 34 ∧ 2 = 0)) from by omega) (fun j => (show ¬ ((36 = 34 ∧ j = 0)) from by omega))).trans (rfl)⟩⟩⟩
