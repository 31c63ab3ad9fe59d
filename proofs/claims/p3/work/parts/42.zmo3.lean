set_option maxRecDepth 8000 in
/-- Mo.anew -/
theorem zs180 {sc : xSc} {n : Nat × Nat} {m0 : wm} {c : Int} (hc : 0 ≤ c ∧ c ≤ 1000000)  (hG : zB c m0) : wX (zK sc) 180 [.inr (.inr (.inl (some (34, 0))))] n m0 (wr (fun vv n1 m1 => vv = none ∧ n = n1 ∧ zB c m1 ∧ zfr (fun k i j => (k = 34 ∧ j = 15) ∨ (k = 46)) m0 m1 ∧ True)) := by
  refine wX_of (N := zM180) rfl (Nat.le_of_ble_eq_true rfl) ?_
  show wW (zK sc) zM180 0 [(0, .inr (.inr (.inl (some (34, 0)))))] [] n m0 _
  have hF : zfr (fun k i j => (k = 34 ∧ j = 15) ∨ (k = 46)) m0 m0 := zfr_rf
  refine ww_go 3 (pc' := 5) (L' := [(0, .inr (.inr (.inl (some (34, 0)))))]) (st' := []) (m' := wuI m0 34 0 15 0) (o := some ((0 < 1))) rfl (show (0 < 1) from by omega) ?_
  obtain ⟨m1, hm1⟩ : ∃ zq9 : wm, zq9 = wuI m0 34 0 15 0 := ⟨_, rfl⟩
  rw [← hm1]
  have hGm1 : zB c m1 := by rw [hm1]; exact zB_wI rfl (show 0 ≤ (0 : Int) ∧ (0 : Int) ≤ c from by omega) hG
  have hFm1 : zfr (fun k i j => (k = 34 ∧ j = 15) ∨ (k = 46)) m0 m1 := by rw [hm1]; exact zfr_wI hF (show (34 = 34 ∧ 15 = 15) ∨ (34 = 46) from Or.inl (⟨rfl, rfl⟩))
  have s2 : m1.1 34 0 15 = (0 : Int) := by rw [hm1]; exact wuI_self
  refine ww_go 5 (pc' := 12) (L' := [(0, .inr (.inr (.inl (some (34, 0)))))]) (st' := []) (m' := wuI m1 46 0 0 0) (o := some ((0 < 1) ∧ (0 < 1 ∧ 0 ≤ (0 : Int) ∧ (0 : Int) < ((2 : Nat) : Int)))) rfl (show (0 < 1) ∧ (0 < 1 ∧ 0 ≤ (0 : Int) ∧ (0 : Int) < ((2 : Nat) : Int)) from by omega) ?_
  obtain ⟨m3, hm3⟩ : ∃ zq9 : wm, zq9 = wuI m1 46 0 0 0 := ⟨_, rfl⟩
  rw [← hm3]
  have hGm3 : zB c m3 := by rw [hm3]; exact zB_wI rfl (show 0 ≤ (0 : Int) ∧ (0 : Int) ≤ c from by omega) hGm1
  have hFm3 : zfr (fun k i j => (k = 34 ∧ j = 15) ∨ (k = 46)) m0 m3 := by rw [hm3]; exact zfr_wI hFm1 (show (46 = 34 ∧ 0 = 15) ∨ (46 = 46) from Or.inr (rfl))
  have s4 : m3.1 46 0 0 = (0 : Int) := by rw [hm3]; exact wuI_self
  refine ww_go 5 (pc' := 19) (L' := [(0, .inr (.inr (.inl (some (34, 0)))))]) (st' := []) (m' := wuI m3 46 0 1 0) (o := some ((0 < 1) ∧ (0 < 1 ∧ 0 ≤ (1 : Int) ∧ (1 : Int) < ((2 : Nat) : Int)))) rfl (show (0 < 1) ∧ (0 < 1 ∧ 0 ≤ (1 : Int) ∧ (1 : Int) < ((2 : Nat) : Int)) from by omega) ?_
  obtain ⟨m5, hm5⟩ : ∃ zq9 : wm, zq9 = wuI m3 46 0 1 0 := ⟨_, rfl⟩
  rw [← hm5]
  have hGm5 : zB c m5 := by rw [hm5]; exact zB_wI rfl (show 0 ≤ (0 : Int) ∧ (0 : Int) ≤ c from by omega) hGm3
  have hFm5 : zfr (fun k i j => (k = 34 ∧ j = 15) ∨ (k = 46)) m0 m5 := by rw [hm5]; exact zfr_wI hFm3 (show (46 = 34 ∧ 1 = 15) ∨ (46 = 46) from Or.inr (rfl))
  have s6 : m5.1 46 0 1 = (0 : Int) := by rw [hm5]; exact wuI_self
  exact ww_rV rfl rfl ⟨rfl, rfl, zB_mono hGm5 (by omega), hFm5, by trivial⟩
set_option maxRecDepth 8000 in
/-- Mo.mask -/
theorem zs222 {sc : xSc} {n : Nat × Nat} {m : wm} (x : Int) (t : Int) (b : Int) (y : Int) (n9 : Int) (h0 : -2147483648 ≤ y ∧ y ≤ 2147483647 ∧ -2147483648 ≤ n9 ∧ n9 ≤ 2147483647) : wX (zK sc) 222 [.inl x, .inl t, .inl b, .inl y, .inl n9] n m (wr (fun vv n1 m1 => ∃ r : Int, vv = some (.inl r) ∧ n = n1 ∧ m = m1 ∧ (-2147483649 ≤ r ∧ r ≤ 2147483647 ∧ (1 ≤ n9 ∧ n9 ≤ 8 → -2147483648 ≤ r)))) := by
  refine wX_of (N := zM222) rfl (Nat.le_of_ble_eq_true rfl) ?_
  show wW (zK sc) zM222 0 [(0, .inl x), (1, .inl t), (2, .inl b), (3, .inl y), (4, .inl n9)] [] n m _
  refine ww_go 2 (pc' := 3) (L' := [(0, .inl x), (1, .inl t), (2, .inl b), (3, .inl y), (4, .inl n9)]) (st' := [.inl n9, .inl y]) (m' := m) (o := none) rfl trivial ?_
  refine ww_ic (t := 10) rfl rfl (by omega) (fun (h1 : n9 ≤ y) => ?_) (fun (h1 : ¬ (n9 ≤ y)) => ?_)
  · show wW (zK sc) zM222 10 [(0, .inl x), (1, .inl t), (2, .inl b), (3, .inl y), (4, .inl n9)] [] _ _ _
    have t2 := wushr_rg (((((40503 * (y + 1)) * (y + 7)) + (9973 * (b + 1))) + (977 * t)) + (31 * x)) 8
    have t3 := wshl_rg 1 n9
    have t4 : 0 ≤ n9 ∧ n9 ≤ 30 → 1 ≤ wshl 1 n9 := wshl1_rg
    have t5 := wand_rg (wushr (((((40503 * (y + 1)) * (y + 7)) + (9973 * (b + 1))) + (977 * t)) + (31 * x)) 8) ((wshl 1 n9) - 1)
    refine ww_go 35 (pc' := 58) (L' := [(6, .inl (wand (wushr (((((40503 * (y + 1)) * (y + 7)) + (9973 * (b + 1))) + (977 * t)) + (31 * x)) 8) ((wshl 1 n9) - 1))), (5, .inl (((((40503 * (y + 1)) * (y + 7)) + (9973 * (b + 1))) + (977 * t)) + (31 * x))), (0, .inl x), (1, .inl t), (2, .inl b), (3, .inl y), (4, .inl n9)]) (st' := [.inl (wand (wushr (((((40503 * (y + 1)) * (y + 7)) + (9973 * (b + 1))) + (977 * t)) + (31 * x)) 8) ((wshl 1 n9) - 1))]) (m' := m) (o := none) rfl trivial ?_
    refine ww_if (t := 70) rfl rfl (by omega) (fun (h6 : wand (wushr (((((40503 * (y + 1)) * (y + 7)) + (9973 * (b + 1))) + (977 * t)) + (31 * x)) 8) ((wshl 1 n9) - 1) ≠ 0) => ?_) (fun (h6 : ¬ (wand (wushr (((((40503 * (y + 1)) * (y + 7)) + (9973 * (b + 1))) + (977 * t)) + (31 * x)) 8) ((wshl 1 n9) - 1) ≠ 0)) => ?_)
    · show wW (zK sc) zM222 70 [(6, .inl (wand (wushr (((((40503 * (y + 1)) * (y + 7)) + (9973 * (b + 1))) + (977 * t)) + (31 * x)) 8) ((wshl 1 n9) - 1))), (5, .inl (((((40503 * (y + 1)) * (y + 7)) + (9973 * (b + 1))) + (977 * t)) + (31 * x))), (0, .inl x), (1, .inl t), (2, .inl b), (3, .inl y), (4, .inl n9)] [] _ _ _
      refine ww_go 1 (pc' := 72) (L' := [(6, .inl (wand (wushr (((((40503 * (y + 1)) * (y + 7)) + (9973 * (b + 1))) + (977 * t)) + (31 * x)) 8) ((wshl 1 n9) - 1))), (5, .inl (((((40503 * (y + 1)) * (y + 7)) + (9973 * (b + 1))) + (977 * t)) + (31 * x))), (0, .inl x), (1, .inl t), (2, .inl b), (3, .inl y), (4, .inl n9)]) (st' := [.inl (wand (wushr (((((40503 * (y + 1)) * (y + 7)) + (9973 * (b + 1))) + (977 * t)) + (31 * x)) 8) ((wshl 1 n9) - 1))]) (m' := m) (o := none) rfl trivial ?_
      exact ww_rI rfl rfl ⟨_, rfl, rfl, rfl, by omega⟩
    · show wW (zK sc) zM222 61 [(6, .inl (wand (wushr (((((40503 * (y + 1)) * (y + 7)) + (9973 * (b + 1))) + (977 * t)) + (31 * x)) 8) ((wshl 1 n9) - 1))), (5, .inl (((((40503 * (y + 1)) * (y + 7)) + (9973 * (b + 1))) + (977 * t)) + (31 * x))), (0, .inl x), (1, .inl t), (2, .inl b), (3, .inl y), (4, .inl n9)] [] _ _ _
      have t7 := wshl_rg 1 n9
      have t8 : 0 ≤ n9 ∧ n9 ≤ 30 → 1 ≤ wshl 1 n9 := wshl1_rg
      refine ww_go 6 (pc' := 72) (L' := [(6, .inl (wand (wushr (((((40503 * (y + 1)) * (y + 7)) + (9973 * (b + 1))) + (977 * t)) + (31 * x)) 8) ((wshl 1 n9) - 1))), (5, .inl (((((40503 * (y + 1)) * (y + 7)) + (9973 * (b + 1))) + (977 * t)) + (31 * x))), (0, .inl x), (1, .inl t), (2, .inl b), (3, .inl y), (4, .inl n9)]) (st' := [.inl ((wshl 1 n9) - 1)]) (m' := m) (o := none) rfl trivial ?_
      exact ww_rI rfl rfl ⟨_, rfl, rfl, rfl, by omega⟩
  · show wW (zK sc) zM222 6 [(0, .inl x), (1, .inl t), (2, .inl b), (3, .inl y), (4, .inl n9)] [] _ _ _
    have t9 := wshl_rg 1 y
    have t10 : 0 ≤ y ∧ y ≤ 30 → 1 ≤ wshl 1 y := wshl1_rg
    refine ww_go 3 (pc' := 9) (L' := [(0, .inl x), (1, .inl t), (2, .inl b), (3, .inl y), (4, .inl n9)]) (st' := [.inl (wshl 1 y)]) (m' := m) (o := none) rfl trivial ?_
    exact ww_rI rfl rfl ⟨_, rfl, rfl, rfl, by omega⟩
set_option maxRecDepth 8000 in
theorem zs188_l100 {sc : xSc} {n : Nat × Nat} {m0 : wm} {c : Int} (hc : 0 ≤ c ∧ c ≤ 1000000) (f : Int) (hG : zB c m0) (h0 : -2147483648 ≤ f ∧ f ≤ 2147483647) : ∀ (d : Nat), (∀ (q : Int) (g : Int) (m : wm), (6 - g).toNat * 1000 + 999 = d → zB c m → zfr (fun k i j => (k = 34 ∧ j = 0) ∨ (k = 34 ∧ j = 15) ∨ (k = 46) ∨ (k = 44) ∨ (k = 45) ∨ (k = 43 ∧ 3 * f.toNat ≤ j ∧ j < 3 * f.toNat + 3 ∧ 0 ≤ f ∧ f ≤ 1 ∧ m0.1 42 0 f.toNat < 1000) ∨ (k = 42 ∧ j = f.toNat ∧ 0 ≤ f ∧ f ≤ 1 ∧ m0.1 42 0 f.toNat < 1000)) m0 m → (0 ≤ f ∧ f ≤ 1 ∧ 0 ≤ q ∧ q ≤ 5 ∧ 0 ≤ g ∧ g ≤ m0.1 37 0 f.toNat) → (m.1 34 0 0 = 0 ∧ m.1 37 0 f.toNat = m0.1 37 0 f.toNat ∧ m.1 42 0 f.toNat = m0.1 42 0 f.toNat + 1 ∧ m0.1 42 0 f.toNat < 1000 ∧ q = 3 * f + (m0.1 42 0 f.toNat + 1) % 3 ∧ m.1 43 0 q.toNat = m0.1 37 0 f.toNat + 1) →  wW (zK sc) zM188 100 [(0, .inr (.inr (.inl (some (34, 0))))), (1, .inl f), (2, .inl q), (3, .inl g)] [] n m (wr (fun vv n1 m1 => ∃ r : Int, vv = some (.inl r) ∧ n = n1 ∧ zB c m1 ∧ zfr (fun k i j => (k = 34 ∧ j = 0) ∨ (k = 34 ∧ j = 15) ∨ (k = 46) ∨ (k = 44) ∨ (k = 45) ∨ (k = 43 ∧ 3 * f.toNat ≤ j ∧ j < 3 * f.toNat + 3 ∧ 0 ≤ f ∧ f ≤ 1 ∧ m0.1 42 0 f.toNat < 1000) ∨ (k = 42 ∧ j = f.toNat ∧ 0 ≤ f ∧ f ≤ 1 ∧ m0.1 42 0 f.toNat < 1000)) m0 m1 ∧ ((m1.1 34 0 0 = 1 ∧ (f < 0 ∨ 1 < f) ∧ m1.1 42 0 f.toNat = m0.1 42 0 f.toNat) ∨ (m1.1 34 0 0 = 2 ∧ 0 ≤ f ∧ f ≤ 1 ∧ m0.1 42 0 f.toNat = 1000 ∧ m1.1 42 0 f.toNat = 1000) ∨ (m1.1 34 0 0 = 0 ∧ 0 ≤ f ∧ f ≤ 1 ∧ m0.1 42 0 f.toNat < 1000 ∧ m1.1 42 0 f.toNat = m0.1 42 0 f.toNat + 1 ∧ r = m1.1 42 0 f.toNat ∧ 1 ≤ m1.1 43 0 (3 * f.toNat + ((m0.1 42 0 f.toNat + 1) % 3).toNat)))))) ∧ (∀ (q : Int) (g : Int) (t : Int) (k : Int) (m : wm), (6 - g).toNat * 1000 + (96 - k).toNat = d → zB c m → zfr (fun k i j => (k = 34 ∧ j = 0) ∨ (k = 34 ∧ j = 15) ∨ (k = 46) ∨ (k = 44) ∨ (k = 45) ∨ (k = 43 ∧ 3 * f.toNat ≤ j ∧ j < 3 * f.toNat + 3 ∧ 0 ≤ f ∧ f ≤ 1 ∧ m0.1 42 0 f.toNat < 1000) ∨ (k = 42 ∧ j = f.toNat ∧ 0 ≤ f ∧ f ≤ 1 ∧ m0.1 42 0 f.toNat < 1000)) m0 m → (0 ≤ f ∧ f ≤ 1 ∧ 0 ≤ q ∧ q ≤ 5 ∧ 0 ≤ g ∧ g < m0.1 37 0 f.toNat ∧ t = 7 * q + 1 + g ∧ 0 ≤ k ∧ k ≤ 96 ∧ m.1 44 0 t.toNat ≤ 96) → (m.1 34 0 0 = 0 ∧ m.1 37 0 f.toNat = m0.1 37 0 f.toNat ∧ m.1 42 0 f.toNat = m0.1 42 0 f.toNat + 1 ∧ m0.1 42 0 f.toNat < 1000 ∧ q = 3 * f + (m0.1 42 0 f.toNat + 1) % 3 ∧ m.1 43 0 q.toNat = m0.1 37 0 f.toNat + 1) →  wW (zK sc) zM188 141 [(0, .inr (.inr (.inl (some (34, 0))))), (1, .inl f), (2, .inl q), (3, .inl g), (4, .inl t), (5, .inl k)] [] n m (wr (fun vv n1 m1 => ∃ r : Int, vv = some (.inl r) ∧ n = n1 ∧ zB c m1 ∧ zfr (fun k i j => (k = 34 ∧ j = 0) ∨ (k = 34 ∧ j = 15) ∨ (k = 46) ∨ (k = 44) ∨ (k = 45) ∨ (k = 43 ∧ 3 * f.toNat ≤ j ∧ j < 3 * f.toNat + 3 ∧ 0 ≤ f ∧ f ≤ 1 ∧ m0.1 42 0 f.toNat < 1000) ∨ (k = 42 ∧ j = f.toNat ∧ 0 ≤ f ∧ f ≤ 1 ∧ m0.1 42 0 f.toNat < 1000)) m0 m1 ∧ ((m1.1 34 0 0 = 1 ∧ (f < 0 ∨ 1 < f) ∧ m1.1 42 0 f.toNat = m0.1 42 0 f.toNat) ∨ (m1.1 34 0 0 = 2 ∧ 0 ≤ f ∧ f ≤ 1 ∧ m0.1 42 0 f.toNat = 1000 ∧ m1.1 42 0 f.toNat = 1000) ∨ (m1.1 34 0 0 = 0 ∧ 0 ≤ f ∧ f ≤ 1 ∧ m0.1 42 0 f.toNat < 1000 ∧ m1.1 42 0 f.toNat = m0.1 42 0 f.toNat + 1 ∧ r = m1.1 42 0 f.toNat ∧ 1 ≤ m1.1 43 0 (3 * f.toNat + ((m0.1 42 0 f.toNat + 1) % 3).toNat)))))) := by
  intro d
  induction d using Nat.strongRecOn with
  | ind d ih =>
    refine ⟨?_, ?_⟩
    · intro q g m hd hGm hFm hi hm
      have b0 : 0 ≤ m0.1 37 0 f.toNat ∧ m0.1 37 0 f.toNat ≤ 6 := hG.1 37 _ rfl _ _
      have b1 : 0 ≤ m0.1 42 0 f.toNat ∧ m0.1 42 0 f.toNat ≤ 1000 := hG.1 42 _ rfl _ _
      have b1 : 0 ≤ m.1 37 0 f.toNat ∧ m.1 37 0 f.toNat ≤ 6 := hGm.1 37 _ rfl _ _
      refine ww_go 5 (pc' := 107) (L' := [(0, .inr (.inr (.inl (some (34, 0))))), (1, .inl f), (2, .inl q), (3, .inl g)]) (st' := [.inl (m.1 37 0 f.toNat), .inl g]) (m' := m) (o := some ((0 < 1) ∧ (0 < 1 ∧ 0 ≤ f ∧ f < ((2 : Nat) : Int)))) rfl (show (0 < 1) ∧ (0 < 1 ∧ 0 ≤ f ∧ f < ((2 : Nat) : Int)) from by omega) ?_
      refine ww_ic (t := 195) rfl rfl (by omega) (fun (h2 : m.1 37 0 f.toNat ≤ g) => ?_) (fun (h2 : ¬ (m.1 37 0 f.toNat ≤ g)) => ?_)
      · show wW (zK sc) zM188 195 [(0, .inr (.inr (.inl (some (34, 0))))), (1, .inl f), (2, .inl q), (3, .inl g)] [] _ _ _
        refine ww_go 1 (pc' := 196) (L' := [(0, .inr (.inr (.inl (some (34, 0))))), (1, .inl f), (2, .inl q), (3, .inl g)]) (st' := [.inr (.inr (.inl (some (34, 0))))]) (m' := m) (o := none) rfl trivial ?_
        refine ww_call (vs := [.inr (.inr (.inl (some (34, 0))))]) (r := []) (p := 0 < 1) rfl rfl rfl rfl (show 0 < 1 from by omega) (zs180 (c := c) (by omega) hGm) ?_
        rintro _ _ m5 ⟨rfl, rfl, hGm5, hEm5, hr4⟩
        have hFm5 : zfr (fun k i j => (k = 34 ∧ j = 0) ∨ (k = 34 ∧ j = 15) ∨ (k = 46) ∨ (k = 44) ∨ (k = 45) ∨ (k = 43 ∧ 3 * f.toNat ≤ j ∧ j < 3 * f.toNat + 3 ∧ 0 ≤ f ∧ f ≤ 1 ∧ m0.1 42 0 f.toNat < 1000) ∨ (k = 42 ∧ j = f.toNat ∧ 0 ≤ f ∧ f ≤ 1 ∧ m0.1 42 0 f.toNat < 1000)) m0 m5 := zfr_tr hFm hEm5 (fun k i j z => Or.elim z (fun z => Or.inr (Or.inl z)) (fun z => Or.inr (Or.inr (Or.inl z))))
        have w6 : m5.1 34 0 0 = m.1 34 0 0 := (hEm5 34 0 0 (show ¬ ((34 = 34 ∧ 0 = 15) ∨ (34 = 46)) from by omega)).1
        have w7 : m5.1 37 0 f.toNat = m.1 37 0 f.toNat := (hEm5 37 0 f.toNat (show ¬ ((37 = 34 ∧ f.toNat = 15) ∨ (37 = 46)) from by omega)).1
        have w8 : m5.1 42 0 f.toNat = m.1 42 0 f.toNat := (hEm5 42 0 f.toNat (show ¬ ((42 = 34 ∧ f.toNat = 15) ∨ (42 = 46)) from by omega)).1
        have w9 : m5.1 43 0 q.toNat = m.1 43 0 q.toNat := (hEm5 43 0 q.toNat (show ¬ ((43 = 34 ∧ q.toNat = 15) ∨ (43 = 46)) from by omega)).1
        show wW (zK sc) zM188 199 [(0, .inr (.inr (.inl (some (34, 0))))), (1, .inl f), (2, .inl q), (3, .inl g)] [] _ _ _
        have b10 : 0 ≤ m5.1 42 0 f.toNat ∧ m5.1 42 0 f.toNat ≤ 1000 := hGm5.1 42 _ rfl _ _
        refine ww_go 4 (pc' := 205) (L' := [(0, .inr (.inr (.inl (some (34, 0))))), (1, .inl f), (2, .inl q), (3, .inl g)]) (st' := [.inl (m5.1 42 0 f.toNat)]) (m' := m5) (o := some ((0 < 1) ∧ (0 < 1 ∧ 0 ≤ f ∧ f < ((2 : Nat) : Int)))) rfl (show (0 < 1) ∧ (0 < 1 ∧ 0 ≤ f ∧ f < ((2 : Nat) : Int)) from by omega) ?_
        have zk9 : m5.1 43 0 (3 * f.toNat + ((m0.1 42 0 f.toNat + 1) % 3).toNat) = m5.1 43 0 q.toNat := by rw [show 3 * f.toNat + ((m0.1 42 0 f.toNat + 1) % 3).toNat = q.toNat from by omega]
        exact ww_rI rfl rfl ⟨_, rfl, rfl, zB_mono hGm5 (by omega), hFm5, by omega⟩
      · show wW (zK sc) zM188 110 [(0, .inr (.inr (.inl (some (34, 0))))), (1, .inl f), (2, .inl q), (3, .inl g)] [] _ _ _
        have b11 : 0 ≤ m.1 40 0 (((6 * f) + g).toNat) ∧ m.1 40 0 (((6 * f) + g).toNat) ≤ 96 := hGm.1 40 _ rfl _ _
        refine ww_go 20 (pc' := 138) (L' := [(4, .inl (((7 * q) + 1) + g)), (0, .inr (.inr (.inl (some (34, 0))))), (1, .inl f), (2, .inl q), (3, .inl g)]) (st' := []) (m' := wuI m 44 0 ((((7 * q) + 1) + g).toNat) (m.1 40 0 (((6 * f) + g).toNat))) (o := some ((0 < 1) ∧ (0 < 1) ∧ (0 < 1 ∧ 0 ≤ (6 * f) + g ∧ (6 * f) + g < ((12 : Nat) : Int)) ∧ (0 < 1 ∧ 0 ≤ ((7 * q) + 1) + g ∧ ((7 * q) + 1) + g < ((42 : Nat) : Int)))) rfl (show (0 < 1) ∧ (0 < 1) ∧ (0 < 1 ∧ 0 ≤ (6 * f) + g ∧ (6 * f) + g < ((12 : Nat) : Int)) ∧ (0 < 1 ∧ 0 ≤ ((7 * q) + 1) + g ∧ ((7 * q) + 1) + g < ((42 : Nat) : Int)) from by omega) ?_
        obtain ⟨m12, hm12⟩ : ∃ zq9 : wm, zq9 = wuI m 44 0 ((((7 * q) + 1) + g).toNat) (m.1 40 0 (((6 * f) + g).toNat)) := ⟨_, rfl⟩
        rw [← hm12]
        have hGm12 : zB c m12 := by rw [hm12]; exact zB_wI rfl (show 0 ≤ m.1 40 0 (((6 * f) + g).toNat) ∧ m.1 40 0 (((6 * f) + g).toNat) ≤ 104 from by omega) hGm
        have hFm12 : zfr (fun k i j => (k = 34 ∧ j = 0) ∨ (k = 34 ∧ j = 15) ∨ (k = 46) ∨ (k = 44) ∨ (k = 45) ∨ (k = 43 ∧ 3 * f.toNat ≤ j ∧ j < 3 * f.toNat + 3 ∧ 0 ≤ f ∧ f ≤ 1 ∧ m0.1 42 0 f.toNat < 1000) ∨ (k = 42 ∧ j = f.toNat ∧ 0 ≤ f ∧ f ≤ 1 ∧ m0.1 42 0 f.toNat < 1000)) m0 m12 := by rw [hm12]; exact zfr_wI hFm (show (44 = 34 ∧ ((((7 * q) + 1) + g).toNat) = 0) ∨ (44 = 34 ∧ ((((7 * q) + 1) + g).toNat) = 15) ∨ (44 = 46) ∨ (44 = 44) ∨ (44 = 45) ∨ (44 = 43 ∧ 3 * f.toNat ≤ ((((7 * q) + 1) + g).toNat) ∧ ((((7 * q) + 1) + g).toNat) < 3 * f.toNat + 3 ∧ 0 ≤ f ∧ f ≤ 1 ∧ m0.1 42 0 f.toNat < 1000) ∨ (44 = 42 ∧ ((((7 * q) + 1) + g).toNat) = f.toNat ∧ 0 ≤ f ∧ f ≤ 1 ∧ m0.1 42 0 f.toNat < 1000) from Or.inr (Or.inr (Or.inr (Or.inl rfl))))
        have s13 : m12.1 44 0 ((((7 * q) + 1) + g).toNat) = m.1 40 0 (((6 * f) + g).toNat) := by rw [hm12]; exact wuI_self
        have w14 : m12.1 34 0 0 = m.1 34 0 0 := by rw [hm12]; rfl
        have w15 : m12.1 37 0 f.toNat = m.1 37 0 f.toNat := by rw [hm12]; rfl
        have w16 : m12.1 42 0 f.toNat = m.1 42 0 f.toNat := by rw [hm12]; rfl
        have w17 : m12.1 43 0 q.toNat = m.1 43 0 q.toNat := by rw [hm12]; rfl
        refine ww_go 2 (pc' := 141) (L' := [(5, .inl 0), (4, .inl (((7 * q) + 1) + g)), (0, .inr (.inr (.inl (some (34, 0))))), (1, .inl f), (2, .inl q), (3, .inl g)]) (st' := []) (m' := m12) (o := none) rfl trivial ?_
        refine ww_sub (L := [(0, .inr (.inr (.inl (some (34, 0))))), (1, .inl f), (2, .inl q), (3, .inl g), (4, .inl (((7 * q) + 1) + g)), (5, .inl 0)]) ⟨rfl, rfl, rfl, rfl, rfl, rfl, trivial⟩ rfl rfl ?_
        exact (ih _ (by omega)).2 q g (((7 * q) + 1) + g) 0 m12 rfl (zB_mono hGm12 (by omega)) hFm12 (by omega) (by omega)
    · intro q g t k m hd hGm hFm hi hm
      have b0 : 0 ≤ m0.1 37 0 f.toNat ∧ m0.1 37 0 f.toNat ≤ 6 := hG.1 37 _ rfl _ _
      have b1 : 0 ≤ m0.1 42 0 f.toNat ∧ m0.1 42 0 f.toNat ≤ 1000 := hG.1 42 _ rfl _ _
      have b1 : 0 ≤ m.1 44 0 t.toNat ∧ m.1 44 0 t.toNat ≤ 104 := hGm.1 44 _ rfl _ _
      refine ww_go 5 (pc' := 150) (L' := [(0, .inr (.inr (.inl (some (34, 0))))), (1, .inl f), (2, .inl q), (3, .inl g), (4, .inl t), (5, .inl k)]) (st' := [.inl (m.1 44 0 t.toNat), .inl k]) (m' := m) (o := some ((0 < 1) ∧ (0 < 1 ∧ 0 ≤ t ∧ t < ((42 : Nat) : Int)))) rfl (show (0 < 1) ∧ (0 < 1 ∧ 0 ≤ t ∧ t < ((42 : Nat) : Int)) from by omega) ?_
      refine ww_ic (t := 189) rfl rfl (by omega) (fun (h2 : m.1 44 0 t.toNat ≤ k) => ?_) (fun (h2 : ¬ (m.1 44 0 t.toNat ≤ k)) => ?_)
      · show wW (zK sc) zM188 189 [(0, .inr (.inr (.inl (some (34, 0))))), (1, .inl f), (2, .inl q), (3, .inl g), (4, .inl t), (5, .inl k)] [] _ _ _
        refine ww_go 2 (pc' := 100) (L' := [(3, .inl (g + 1)), (0, .inr (.inr (.inl (some (34, 0))))), (1, .inl f), (2, .inl q), (4, .inl t), (5, .inl k)]) (st' := []) (m' := m) (o := none) rfl trivial ?_
        refine ww_sub (L := [(0, .inr (.inr (.inl (some (34, 0))))), (1, .inl f), (2, .inl q), (3, .inl (g + 1))]) ⟨rfl, rfl, rfl, rfl, trivial⟩ rfl rfl ?_
        exact (ih _ (by omega)).1 q (g + 1) m rfl (zB_mono hGm (by omega)) hFm (by omega) (by omega)
      · show wW (zK sc) zM188 153 [(0, .inr (.inr (.inl (some (34, 0))))), (1, .inl f), (2, .inl q), (3, .inl g), (4, .inl t), (5, .inl k)] [] _ _ _
        have b3 : 0 ≤ m.1 41 0 (((96 * ((6 * f) + g)) + k).toNat) ∧ m.1 41 0 (((96 * ((6 * f) + g)) + k).toNat) ≤ 255 := hGm.1 41 _ rfl _ _
        refine ww_go 20 (pc' := 183) (L' := [(0, .inr (.inr (.inl (some (34, 0))))), (1, .inl f), (2, .inl q), (3, .inl g), (4, .inl t), (5, .inl k)]) (st' := []) (m' := wuI m 45 0 (((104 * t) + k).toNat) (m.1 41 0 (((96 * ((6 * f) + g)) + k).toNat))) (o := some ((0 < 1) ∧ (0 < 1) ∧ (0 < 1 ∧ 0 ≤ (96 * ((6 * f) + g)) + k ∧ (96 * ((6 * f) + g)) + k < ((1152 : Nat) : Int)) ∧ (0 < 1 ∧ 0 ≤ (104 * t) + k ∧ (104 * t) + k < ((4368 : Nat) : Int)))) rfl (show (0 < 1) ∧ (0 < 1) ∧ (0 < 1 ∧ 0 ≤ (96 * ((6 * f) + g)) + k ∧ (96 * ((6 * f) + g)) + k < ((1152 : Nat) : Int)) ∧ (0 < 1 ∧ 0 ≤ (104 * t) + k ∧ (104 * t) + k < ((4368 : Nat) : Int)) from by omega) ?_
        obtain ⟨m4, hm4⟩ : ∃ zq9 : wm, zq9 = wuI m 45 0 (((104 * t) + k).toNat) (m.1 41 0 (((96 * ((6 * f) + g)) + k).toNat)) := ⟨_, rfl⟩
        rw [← hm4]
        have hGm4 : zB c m4 := by rw [hm4]; exact zB_wI rfl (show 0 ≤ m.1 41 0 (((96 * ((6 * f) + g)) + k).toNat) ∧ m.1 41 0 (((96 * ((6 * f) + g)) + k).toNat) ≤ 255 from by omega) hGm
        have hFm4 : zfr (fun k i j => (k = 34 ∧ j = 0) ∨ (k = 34 ∧ j = 15) ∨ (k = 46) ∨ (k = 44) ∨ (k = 45) ∨ (k = 43 ∧ 3 * f.toNat ≤ j ∧ j < 3 * f.toNat + 3 ∧ 0 ≤ f ∧ f ≤ 1 ∧ m0.1 42 0 f.toNat < 1000) ∨ (k = 42 ∧ j = f.toNat ∧ 0 ≤ f ∧ f ≤ 1 ∧ m0.1 42 0 f.toNat < 1000)) m0 m4 := by rw [hm4]; exact zfr_wI hFm (show (45 = 34 ∧ (((104 * t) + k).toNat) = 0) ∨ (45 = 34 ∧ (((104 * t) + k).toNat) = 15) ∨ (45 = 46) ∨ (45 = 44) ∨ (45 = 45) ∨ (45 = 43 ∧ 3 * f.toNat ≤ (((104 * t) + k).toNat) ∧ (((104 * t) + k).toNat) < 3 * f.toNat + 3 ∧ 0 ≤ f ∧ f ≤ 1 ∧ m0.1 42 0 f.toNat < 1000) ∨ (45 = 42 ∧ (((104 * t) + k).toNat) = f.toNat ∧ 0 ≤ f ∧ f ≤ 1 ∧ m0.1 42 0 f.toNat < 1000) from Or.inr (Or.inr (Or.inr (Or.inr (Or.inl rfl)))))
        have s5 : m4.1 45 0 (((104 * t) + k).toNat) = m.1 41 0 (((96 * ((6 * f) + g)) + k).toNat) := by rw [hm4]; exact wuI_self
        have w6 : m4.1 34 0 0 = m.1 34 0 0 := by rw [hm4]; rfl
        have w7 : m4.1 37 0 f.toNat = m.1 37 0 f.toNat := by rw [hm4]; rfl
        have w8 : m4.1 42 0 f.toNat = m.1 42 0 f.toNat := by rw [hm4]; rfl
        have w9 : m4.1 44 0 t.toNat = m.1 44 0 t.toNat := by rw [hm4]; rfl
        have w10 : m4.1 43 0 q.toNat = m.1 43 0 q.toNat := by rw [hm4]; rfl
        refine ww_go 2 (pc' := 141) (L' := [(5, .inl (k + 1)), (0, .inr (.inr (.inl (some (34, 0))))), (1, .inl f), (2, .inl q), (3, .inl g), (4, .inl t)]) (st' := []) (m' := m4) (o := none) rfl trivial ?_
        refine ww_sub (L := [(0, .inr (.inr (.inl (some (34, 0))))), (1, .inl f), (2, .inl q), (3, .inl g), (4, .inl t), (5, .inl (k + 1))]) ⟨rfl, rfl, rfl, rfl, rfl, rfl, trivial⟩ rfl rfl ?_
        exact (ih _ (by omega)).2 q g t (k + 1) m4 rfl (zB_mono hGm4 (by omega)) hFm4 (by omega) (by omega)
set_option maxRecDepth 8000 in
/-- Mo.commit -/
theorem zs188 {sc : xSc} {n : Nat × Nat} {m0 : wm} {c : Int} (hc : 0 ≤ c ∧ c ≤ 1000000) (f : Int) (hG : zB c m0) (h0 : -2147483648 ≤ f ∧ f ≤ 2147483647) : wX (zK sc) 188 [.inr (.inr (.inl (some (34, 0)))), .inl f] n m0 (wr (fun vv n1 m1 => ∃ r : Int, vv = some (.inl r) ∧ n = n1 ∧ zB c m1 ∧ zfr (fun k i j => (k = 34 ∧ j = 0) ∨ (k = 34 ∧ j = 15) ∨ (k = 46) ∨ (k = 44) ∨ (k = 45) ∨ (k = 43 ∧ 3 * f.toNat ≤ j ∧ j < 3 * f.toNat + 3 ∧ 0 ≤ f ∧ f ≤ 1 ∧ m0.1 42 0 f.toNat < 1000) ∨ (k = 42 ∧ j = f.toNat ∧ 0 ≤ f ∧ f ≤ 1 ∧ m0.1 42 0 f.toNat < 1000)) m0 m1 ∧ ((m1.1 34 0 0 = 1 ∧ (f < 0 ∨ 1 < f) ∧ m1.1 42 0 f.toNat = m0.1 42 0 f.toNat) ∨ (m1.1 34 0 0 = 2 ∧ 0 ≤ f ∧ f ≤ 1 ∧ m0.1 42 0 f.toNat = 1000 ∧ m1.1 42 0 f.toNat = 1000) ∨ (m1.1 34 0 0 = 0 ∧ 0 ≤ f ∧ f ≤ 1 ∧ m0.1 42 0 f.toNat < 1000 ∧ m1.1 42 0 f.toNat = m0.1 42 0 f.toNat + 1 ∧ r = m1.1 42 0 f.toNat ∧ 1 ≤ m1.1 43 0 (3 * f.toNat + ((m0.1 42 0 f.toNat + 1) % 3).toNat))))) := by
  refine wX_of (N := zM188) rfl (Nat.le_of_ble_eq_true rfl) ?_
  show wW (zK sc) zM188 0 [(0, .inr (.inr (.inl (some (34, 0))))), (1, .inl f)] [] n m0 _
  have hF : zfr (fun k i j => (k = 34 ∧ j = 0) ∨ (k = 34 ∧ j = 15) ∨ (k = 46) ∨ (k = 44) ∨ (k = 45) ∨ (k = 43 ∧ 3 * f.toNat ≤ j ∧ j < 3 * f.toNat + 3 ∧ 0 ≤ f ∧ f ≤ 1 ∧ m0.1 42 0 f.toNat < 1000) ∨ (k = 42 ∧ j = f.toNat ∧ 0 ≤ f ∧ f ≤ 1 ∧ m0.1 42 0 f.toNat < 1000)) m0 m0 := zfr_rf
  have b0 : 0 ≤ m0.1 37 0 f.toNat ∧ m0.1 37 0 f.toNat ≤ 6 := hG.1 37 _ rfl _ _
  have b1 : 0 ≤ m0.1 42 0 f.toNat ∧ m0.1 42 0 f.toNat ≤ 1000 := hG.1 42 _ rfl _ _
  refine ww_go 4 (pc' := 4) (L' := [(0, .inr (.inr (.inl (some (34, 0))))), (1, .inl f)]) (st' := [.inl 1, .inl 0, .inl f, .inr (.inr (.inl (some (34, 0))))]) (m' := m0) (o := none) rfl trivial ?_
  refine ww_call (vs := [.inl f, .inl 0, .inl 1]) (r := [.inr (.inr (.inl (some (34, 0))))]) (p := True) rfl rfl rfl rfl trivial (zs207 f 0 1 (by omega)) ?_
  rintro _ _ _ ⟨r1, rfl, rfl, rfl, hr2⟩
  show wW (zK sc) zM188 7 [(0, .inr (.inr (.inl (some (34, 0))))), (1, .inl f)] [.inl r1, .inr (.inr (.inl (some (34, 0))))] _ _ _
  refine ww_if (t := 14) rfl rfl (by omega) (fun (h3 : r1 ≠ 0) => ?_) (fun (h3 : ¬ (r1 ≠ 0)) => ?_)
  · show wW (zK sc) zM188 14 [(0, .inr (.inr (.inl (some (34, 0))))), (1, .inl f)] [.inr (.inr (.inl (some (34, 0))))] _ _ _
    refine ww_go 2 (pc' := 16) (L' := [(0, .inr (.inr (.inl (some (34, 0))))), (1, .inl f)]) (st' := [.inl 1, .inl 0, .inr (.inr (.inl (some (34, 0))))]) (m' := m0) (o := none) rfl trivial ?_
    refine ww_call (vs := [.inr (.inr (.inl (some (34, 0)))), .inl 0, .inl 1]) (r := []) (p := 0 < 1) rfl rfl rfl rfl (show 0 < 1 from by omega) (zs196 (c := c) (by omega) 0 1 hG (by omega)) ?_
    rintro _ _ m6 ⟨r4, rfl, rfl, hGm6, hEm6, hr5⟩
    have hFm6 : zfr (fun k i j => (k = 34 ∧ j = 0) ∨ (k = 34 ∧ j = 15) ∨ (k = 46) ∨ (k = 44) ∨ (k = 45) ∨ (k = 43 ∧ 3 * f.toNat ≤ j ∧ j < 3 * f.toNat + 3 ∧ 0 ≤ f ∧ f ≤ 1 ∧ m0.1 42 0 f.toNat < 1000) ∨ (k = 42 ∧ j = f.toNat ∧ 0 ≤ f ∧ f ≤ 1 ∧ m0.1 42 0 f.toNat < 1000)) m0 m6 := zfr_tr hF hEm6 (fun k i j z => Or.inl z)
    have w7 : m6.1 37 0 f.toNat = m0.1 37 0 f.toNat := (hEm6 37 0 f.toNat (show ¬ ((37 = 34 ∧ f.toNat = 0)) from by omega)).1
    have w8 : m6.1 42 0 f.toNat = m0.1 42 0 f.toNat := (hEm6 42 0 f.toNat (show ¬ ((42 = 34 ∧ f.toNat = 0)) from by omega)).1
    show wW (zK sc) zM188 19 [(0, .inr (.inr (.inl (some (34, 0))))), (1, .inl f)] [.inl r4] _ _ _
    refine ww_if (t := 47) rfl rfl (by omega) (fun (h9 : r4 ≠ 0) => ?_) (fun (h9 : ¬ (r4 ≠ 0)) => ?_)
    · show wW (zK sc) zM188 47 [(0, .inr (.inr (.inl (some (34, 0))))), (1, .inl f)] [] _ _ _
      refine ww_go 1 (pc' := 48) (L' := [(0, .inr (.inr (.inl (some (34, 0))))), (1, .inl f)]) (st' := [.inl 0]) (m' := m6) (o := none) rfl trivial ?_
      exact ww_rI rfl rfl ⟨_, rfl, rfl, zB_mono hGm6 (by omega), hFm6, by omega⟩
    · show wW (zK sc) zM188 22 [(0, .inr (.inr (.inl (some (34, 0))))), (1, .inl f)] [] _ _ _
      have b10 : 0 ≤ m6.1 42 0 f.toNat ∧ m6.1 42 0 f.toNat ≤ 1000 := hGm6.1 42 _ rfl _ _
      refine ww_go 6 (pc' := 32) (L' := [(0, .inr (.inr (.inl (some (34, 0))))), (1, .inl f)]) (st' := [.inl 1000, .inl (m6.1 42 0 f.toNat), .inr (.inr (.inl (some (34, 0))))]) (m' := m6) (o := some ((0 < 1) ∧ (0 < 1 ∧ 0 ≤ f ∧ f < ((2 : Nat) : Int)))) rfl (show (0 < 1) ∧ (0 < 1 ∧ 0 ≤ f ∧ f < ((2 : Nat) : Int)) from by omega) ?_
      refine ww_ic (t := 39) rfl rfl (by omega) (fun (h11 : m6.1 42 0 f.toNat ≠ 1000) => ?_) (fun (h11 : ¬ (m6.1 42 0 f.toNat ≠ 1000)) => ?_)
      · show wW (zK sc) zM188 39 [(0, .inr (.inr (.inl (some (34, 0))))), (1, .inl f)] [.inr (.inr (.inl (some (34, 0))))] _ _ _
        refine ww_go 2 (pc' := 41) (L' := [(0, .inr (.inr (.inl (some (34, 0))))), (1, .inl f)]) (st' := [.inl 2, .inl 0, .inr (.inr (.inl (some (34, 0))))]) (m' := m6) (o := none) rfl trivial ?_
        refine ww_call (vs := [.inr (.inr (.inl (some (34, 0)))), .inl 0, .inl 2]) (r := []) (p := 0 < 1) rfl rfl rfl rfl (show 0 < 1 from by omega) (zs196 (c := c) (by omega) 0 2 hGm6 (by omega)) ?_
        rintro _ _ m14 ⟨r12, rfl, rfl, hGm14, hEm14, hr13⟩
        have hFm14 : zfr (fun k i j => (k = 34 ∧ j = 0) ∨ (k = 34 ∧ j = 15) ∨ (k = 46) ∨ (k = 44) ∨ (k = 45) ∨ (k = 43 ∧ 3 * f.toNat ≤ j ∧ j < 3 * f.toNat + 3 ∧ 0 ≤ f ∧ f ≤ 1 ∧ m0.1 42 0 f.toNat < 1000) ∨ (k = 42 ∧ j = f.toNat ∧ 0 ≤ f ∧ f ≤ 1 ∧ m0.1 42 0 f.toNat < 1000)) m0 m14 := zfr_tr hFm6 hEm14 (fun k i j z => Or.inl z)
        have w15 : m14.1 37 0 f.toNat = m6.1 37 0 f.toNat := (hEm14 37 0 f.toNat (show ¬ ((37 = 34 ∧ f.toNat = 0)) from by omega)).1
        have w16 : m14.1 42 0 f.toNat = m6.1 42 0 f.toNat := (hEm14 42 0 f.toNat (show ¬ ((42 = 34 ∧ f.toNat = 0)) from by omega)).1
        show wW (zK sc) zM188 44 [(0, .inr (.inr (.inl (some (34, 0))))), (1, .inl f)] [.inl r12] _ _ _
        refine ww_if (t := 49) rfl rfl (by omega) (fun (h17 : r12 = 0) => ?_) (fun (h17 : ¬ (r12 = 0)) => ?_)
        · show wW (zK sc) zM188 49 [(0, .inr (.inr (.inl (some (34, 0))))), (1, .inl f)] [] _ _ _
          have b18 : 0 ≤ m14.1 42 0 f.toNat ∧ m14.1 42 0 f.toNat ≤ 1000 := hGm14.1 42 _ rfl _ _
          refine ww_go 8 (pc' := 59) (L' := [(0, .inr (.inr (.inl (some (34, 0))))), (1, .inl f)]) (st' := []) (m' := wuI m14 42 0 f.toNat ((m14.1 42 0 f.toNat) + 1)) (o := some ((0 < 1) ∧ (0 < 1 ∧ 0 ≤ f ∧ f < ((2 : Nat) : Int)) ∧ (0 < 1 ∧ 0 ≤ f ∧ f < ((2 : Nat) : Int)))) rfl (show (0 < 1) ∧ (0 < 1 ∧ 0 ≤ f ∧ f < ((2 : Nat) : Int)) ∧ (0 < 1 ∧ 0 ≤ f ∧ f < ((2 : Nat) : Int)) from by omega) ?_
          obtain ⟨m19, hm19⟩ : ∃ zq9 : wm, zq9 = wuI m14 42 0 f.toNat ((m14.1 42 0 f.toNat) + 1) := ⟨_, rfl⟩
          rw [← hm19]
          have hGm19 : zB c m19 := by rw [hm19]; exact zB_wI rfl (show 0 ≤ (m14.1 42 0 f.toNat) + 1 ∧ (m14.1 42 0 f.toNat) + 1 ≤ 1000 from by omega) hGm14
          have hFm19 : zfr (fun k i j => (k = 34 ∧ j = 0) ∨ (k = 34 ∧ j = 15) ∨ (k = 46) ∨ (k = 44) ∨ (k = 45) ∨ (k = 43 ∧ 3 * f.toNat ≤ j ∧ j < 3 * f.toNat + 3 ∧ 0 ≤ f ∧ f ≤ 1 ∧ m0.1 42 0 f.toNat < 1000) ∨ (k = 42 ∧ j = f.toNat ∧ 0 ≤ f ∧ f ≤ 1 ∧ m0.1 42 0 f.toNat < 1000)) m0 m19 := by rw [hm19]; exact zfr_wI hFm14 (show (42 = 34 ∧ f.toNat = 0) ∨ (42 = 34 ∧ f.toNat = 15) ∨ (42 = 46) ∨ (42 = 44) ∨ (42 = 45) ∨ (42 = 43 ∧ 3 * f.toNat ≤ f.toNat ∧ f.toNat < 3 * f.toNat + 3 ∧ 0 ≤ f ∧ f ≤ 1 ∧ m0.1 42 0 f.toNat < 1000) ∨ (42 = 42 ∧ f.toNat = f.toNat ∧ 0 ≤ f ∧ f ≤ 1 ∧ m0.1 42 0 f.toNat < 1000) from Or.inr (Or.inr (Or.inr (Or.inr (Or.inr (Or.inr ((show (42 = 42 ∧ f.toNat = f.toNat ∧ 0 ≤ f ∧ f ≤ 1 ∧ m0.1 42 0 f.toNat < 1000) from by omega))))))))
          have s20 : m19.1 42 0 f.toNat = (m14.1 42 0 f.toNat) + 1 := by rw [hm19]; exact wuI_self
          have w21 : m19.1 34 0 0 = m14.1 34 0 0 := by rw [hm19]; rfl
          have w22 : m19.1 37 0 f.toNat = m14.1 37 0 f.toNat := by rw [hm19]; rfl
          have b23 : 0 ≤ m19.1 42 0 f.toNat ∧ m19.1 42 0 f.toNat ≤ 1000 := hGm19.1 42 _ rfl _ _
          have t24 : (0 ≤ (m19.1 42 0 f.toNat) → (m19.1 42 0 f.toNat).tmod 3 = (m19.1 42 0 f.toNat) % 3) ∧ ((m19.1 42 0 f.toNat) < 0 → (m19.1 42 0 f.toNat).tmod 3 = -((-((m19.1 42 0 f.toNat))) % 3)) := ⟨fun z => Int.tmod_eq_emod_of_nonneg z, fun z => wtmod_neg z⟩
          refine ww_go 18 (pc' := 81) (L' := [(2, .inl ((3 * f) + ((m19.1 42 0 f.toNat).tmod 3))), (0, .inr (.inr (.inl (some (34, 0))))), (1, .inl f)]) (st' := [.inl (m19.1 42 0 f.toNat), .inl ((3 * f) + ((m19.1 42 0 f.toNat).tmod 3)), .inl f, .inr (.inr (.inl (some (34, 0))))]) (m' := m19) (o := some ((0 < 1) ∧ (0 < 1 ∧ 0 ≤ f ∧ f < ((2 : Nat) : Int)) ∧ (-2147483648 ≤ m19.1 42 0 f.toNat ∧ m19.1 42 0 f.toNat ≤ 2147483647 ∧ 0 < (3 : Int) ∧ (3 : Int) ≤ 2147483647) ∧ (0 < 1) ∧ (0 < 1 ∧ 0 ≤ f ∧ f < ((2 : Nat) : Int)))) rfl (show (0 < 1) ∧ (0 < 1 ∧ 0 ≤ f ∧ f < ((2 : Nat) : Int)) ∧ (-2147483648 ≤ m19.1 42 0 f.toNat ∧ m19.1 42 0 f.toNat ≤ 2147483647 ∧ 0 < (3 : Int) ∧ (3 : Int) ≤ 2147483647) ∧ (0 < 1) ∧ (0 < 1 ∧ 0 ≤ f ∧ f < ((2 : Nat) : Int)) from by omega) ?_
          refine ww_call (vs := [.inr (.inr (.inl (some (34, 0)))), .inl f, .inl ((3 * f) + ((m19.1 42 0 f.toNat).tmod 3)), .inl (m19.1 42 0 f.toNat)]) (r := []) (p := 0 < 1) rfl rfl rfl rfl (show 0 < 1 from by omega) (zs221 (c := c) (by omega) f ((3 * f) + ((m19.1 42 0 f.toNat).tmod 3)) (m19.1 42 0 f.toNat) hGm19 (by omega)) ?_
          rintro _ _ m27 ⟨rfl, rfl, hGm27, hEm27, hr26⟩
          have hFm27 : zfr (fun k i j => (k = 34 ∧ j = 0) ∨ (k = 34 ∧ j = 15) ∨ (k = 46) ∨ (k = 44) ∨ (k = 45) ∨ (k = 43 ∧ 3 * f.toNat ≤ j ∧ j < 3 * f.toNat + 3 ∧ 0 ≤ f ∧ f ≤ 1 ∧ m0.1 42 0 f.toNat < 1000) ∨ (k = 42 ∧ j = f.toNat ∧ 0 ≤ f ∧ f ≤ 1 ∧ m0.1 42 0 f.toNat < 1000)) m0 m27 := zfr_tr hFm19 hEm27 (fun k i j z => Or.elim z (fun z => Or.inr (Or.inr (Or.inr (Or.inr (Or.inl z))))) (fun z => Or.inr (Or.inr (Or.inr (Or.inl z)))))
          have w28 : m27.1 34 0 0 = m19.1 34 0 0 := (hEm27 34 0 0 (show ¬ ((34 = 45) ∨ (34 = 44)) from by omega)).1
          have w29 : m27.1 37 0 f.toNat = m19.1 37 0 f.toNat := (hEm27 37 0 f.toNat (show ¬ ((37 = 45) ∨ (37 = 44)) from by omega)).1
          have w30 : m27.1 42 0 f.toNat = m19.1 42 0 f.toNat := (hEm27 42 0 f.toNat (show ¬ ((42 = 45) ∨ (42 = 44)) from by omega)).1
          show wW (zK sc) zM188 84 [(2, .inl ((3 * f) + ((m19.1 42 0 f.toNat).tmod 3))), (0, .inr (.inr (.inl (some (34, 0))))), (1, .inl f)] [] _ _ _
          have b31 : 0 ≤ m27.1 37 0 f.toNat ∧ m27.1 37 0 f.toNat ≤ 6 := hGm27.1 37 _ rfl _ _
          refine ww_go 10 (pc' := 98) (L' := [(2, .inl ((3 * f) + ((m19.1 42 0 f.toNat).tmod 3))), (0, .inr (.inr (.inl (some (34, 0))))), (1, .inl f)]) (st' := []) (m' := wuI m27 43 0 (((3 * f) + ((m19.1 42 0 f.toNat).tmod 3)).toNat) (1 + (m27.1 37 0 f.toNat))) (o := some ((0 < 1) ∧ (0 < 1) ∧ (0 < 1 ∧ 0 ≤ f ∧ f < ((2 : Nat) : Int)) ∧ (0 < 1 ∧ 0 ≤ (3 * f) + ((m19.1 42 0 f.toNat).tmod 3) ∧ (3 * f) + ((m19.1 42 0 f.toNat).tmod 3) < ((6 : Nat) : Int)))) rfl (show (0 < 1) ∧ (0 < 1) ∧ (0 < 1 ∧ 0 ≤ f ∧ f < ((2 : Nat) : Int)) ∧ (0 < 1 ∧ 0 ≤ (3 * f) + ((m19.1 42 0 f.toNat).tmod 3) ∧ (3 * f) + ((m19.1 42 0 f.toNat).tmod 3) < ((6 : Nat) : Int)) from by omega) ?_
          obtain ⟨m32, hm32⟩ : ∃ zq9 : wm, zq9 = wuI m27 43 0 (((3 * f) + ((m19.1 42 0 f.toNat).tmod 3)).toNat) (1 + (m27.1 37 0 f.toNat)) := ⟨_, rfl⟩
          rw [← hm32]
          have hGm32 : zB c m32 := by rw [hm32]; exact zB_wI rfl (show 0 ≤ 1 + (m27.1 37 0 f.toNat) ∧ 1 + (m27.1 37 0 f.toNat) ≤ 7 from by omega) hGm27
          have hFm32 : zfr (fun k i j => (k = 34 ∧ j = 0) ∨ (k = 34 ∧ j = 15) ∨ (k = 46) ∨ (k = 44) ∨ (k = 45) ∨ (k = 43 ∧ 3 * f.toNat ≤ j ∧ j < 3 * f.toNat + 3 ∧ 0 ≤ f ∧ f ≤ 1 ∧ m0.1 42 0 f.toNat < 1000) ∨ (k = 42 ∧ j = f.toNat ∧ 0 ≤ f ∧ f ≤ 1 ∧ m0.1 42 0 f.toNat < 1000)) m0 m32 := by rw [hm32]; exact zfr_wI hFm27 (show (43 = 34 ∧ (((3 * f) + ((m19.1 42 0 f.toNat).tmod 3)).toNat) = 0) ∨ (43 = 34 ∧ (((3 * f) + ((m19.1 42 0 f.toNat).tmod 3)).toNat) = 15) ∨ (43 = 46) ∨ (43 = 44) ∨ (43 = 45) ∨ (43 = 43 ∧ 3 * f.toNat ≤ (((3 * f) + ((m19.1 42 0 f.toNat).tmod 3)).toNat) ∧ (((3 * f) + ((m19.1 42 0 f.toNat).tmod 3)).toNat) < 3 * f.toNat + 3 ∧ 0 ≤ f ∧ f ≤ 1 ∧ m0.1 42 0 f.toNat < 1000) ∨ (43 = 42 ∧ (((3 * f) + ((m19.1 42 0 f.toNat).tmod 3)).toNat) = f.toNat ∧ 0 ≤ f ∧ f ≤ 1 ∧ m0.1 42 0 f.toNat < 1000) from Or.inr (Or.inr (Or.inr (Or.inr (Or.inr (Or.inl ((show (43 = 43 ∧ 3 * f.toNat ≤ (((3 * f) + ((m19.1 42 0 f.toNat).tmod 3)).toNat) ∧ (((3 * f) + ((m19.1 42 0 f.toNat).tmod 3)).toNat) < 3 * f.toNat + 3 ∧ 0 ≤ f ∧ f ≤ 1 ∧ m0.1 42 0 f.toNat < 1000) from by omega))))))))
          have s33 : m32.1 43 0 (((3 * f) + ((m19.1 42 0 f.toNat).tmod 3)).toNat) = 1 + (m27.1 37 0 f.toNat) := by rw [hm32]; exact wuI_self
          have w34 : m32.1 34 0 0 = m27.1 34 0 0 := by rw [hm32]; rfl
          have w35 : m32.1 37 0 f.toNat = m27.1 37 0 f.toNat := by rw [hm32]; rfl
          have w36 : m32.1 42 0 f.toNat = m27.1 42 0 f.toNat := by rw [hm32]; rfl
          refine ww_go 2 (pc' := 100) (L' := [(3, .inl 0), (2, .inl ((3 * f) + ((m19.1 42 0 f.toNat).tmod 3))), (0, .inr (.inr (.inl (some (34, 0))))), (1, .inl f)]) (st' := []) (m' := m32) (o := none) rfl trivial ?_
          refine ww_sub (L := [(0, .inr (.inr (.inl (some (34, 0))))), (1, .inl f), (2, .inl ((3 * f) + ((m19.1 42 0 f.toNat).tmod 3))), (3, .inl 0)]) ⟨rfl, rfl, rfl, rfl, trivial⟩ rfl rfl ?_
          exact (zs188_l100 hc f hG h0 _).1 ((3 * f) + ((m19.1 42 0 f.toNat).tmod 3)) 0 m32 rfl (zB_mono hGm32 (by omega)) hFm32 (by omega) (by omega)
        · show wW (zK sc) zM188 47 [(0, .inr (.inr (.inl (some (34, 0))))), (1, .inl f)] [] _ _ _
          refine ww_go 1 (pc' := 48) (L' := [(0, .inr (.inr (.inl (some (34, 0))))), (1, .inl f)]) (st' := [.inl 0]) (m' := m14) (o := none) rfl trivial ?_
          exact ww_rI rfl rfl ⟨_, rfl, rfl, zB_mono hGm14 (by omega), hFm14, by omega⟩
      · show wW (zK sc) zM188 35 [(0, .inr (.inr (.inl (some (34, 0))))), (1, .inl f)] [.inr (.inr (.inl (some (34, 0))))] _ _ _
        refine ww_go 3 (pc' := 41) (L' := [(0, .inr (.inr (.inl (some (34, 0))))), (1, .inl f)]) (st' := [.inl 2, .inl 1, .inr (.inr (.inl (some (34, 0))))]) (m' := m6) (o := none) rfl trivial ?_
        refine ww_call (vs := [.inr (.inr (.inl (some (34, 0)))), .inl 1, .inl 2]) (r := []) (p := 0 < 1) rfl rfl rfl rfl (show 0 < 1 from by omega) (zs196 (c := c) (by omega) 1 2 hGm6 (by omega)) ?_
        rintro _ _ m39 ⟨r37, rfl, rfl, hGm39, hEm39, hr38⟩
        have hFm39 : zfr (fun k i j => (k = 34 ∧ j = 0) ∨ (k = 34 ∧ j = 15) ∨ (k = 46) ∨ (k = 44) ∨ (k = 45) ∨ (k = 43 ∧ 3 * f.toNat ≤ j ∧ j < 3 * f.toNat + 3 ∧ 0 ≤ f ∧ f ≤ 1 ∧ m0.1 42 0 f.toNat < 1000) ∨ (k = 42 ∧ j = f.toNat ∧ 0 ≤ f ∧ f ≤ 1 ∧ m0.1 42 0 f.toNat < 1000)) m0 m39 := zfr_tr hFm6 hEm39 (fun k i j z => Or.inl z)
        have w40 : m39.1 37 0 f.toNat = m6.1 37 0 f.toNat := (hEm39 37 0 f.toNat (show ¬ ((37 = 34 ∧ f.toNat = 0)) from by omega)).1
        have w41 : m39.1 42 0 f.toNat = m6.1 42 0 f.toNat := (hEm39 42 0 f.toNat (show ¬ ((42 = 34 ∧ f.toNat = 0)) from by omega)).1
        show wW (zK sc) zM188 44 [(0, .inr (.inr (.inl (some (34, 0))))), (1, .inl f)] [.inl r37] _ _ _
        refine ww_if (t := 49) rfl rfl (by omega) (fun (h42 : r37 = 0) => ?_) (fun (h42 : ¬ (r37 = 0)) => ?_)
        · show wW (zK sc) zM188 49 [(0, .inr (.inr (.inl (some (34, 0))))), (1, .inl f)] [] _ _ _
          have b43 : 0 ≤ m39.1 42 0 f.toNat ∧ m39.1 42 0 f.toNat ≤ 1000 := hGm39.1 42 _ rfl _ _
          refine ww_go 8 (pc' := 59) (L' := [(0, .inr (.inr (.inl (some (34, 0))))), (1, .inl f)]) (st' := []) (m' := wuI m39 42 0 f.toNat ((m39.1 42 0 f.toNat) + 1)) (o := some ((0 < 1) ∧ (0 < 1 ∧ 0 ≤ f ∧ f < ((2 : Nat) : Int)) ∧ (0 < 1 ∧ 0 ≤ f ∧ f < ((2 : Nat) : Int)))) rfl (show (0 < 1) ∧ (0 < 1 ∧ 0 ≤ f ∧ f < ((2 : Nat) : Int)) ∧ (0 < 1 ∧ 0 ≤ f ∧ f < ((2 : Nat) : Int)) from by omega) ?_
          obtain ⟨m44, hm44⟩ : ∃ zq9 : wm, zq9 = wuI m39 42 0 f.toNat ((m39.1 42 0 f.toNat) + 1) := ⟨_, rfl⟩
          rw [← hm44]
          have hGm44 : zB c m44 := by rw [hm44]; exact zB_wI rfl (show 0 ≤ (m39.1 42 0 f.toNat) + 1 ∧ (m39.1 42 0 f.toNat) + 1 ≤ 1000 from by omega) hGm39
          have hFm44 : zfr (fun k i j => (k = 34 ∧ j = 0) ∨ (k = 34 ∧ j = 15) ∨ (k = 46) ∨ (k = 44) ∨ (k = 45) ∨ (k = 43 ∧ 3 * f.toNat ≤ j ∧ j < 3 * f.toNat + 3 ∧ 0 ≤ f ∧ f ≤ 1 ∧ m0.1 42 0 f.toNat < 1000) ∨ (k = 42 ∧ j = f.toNat ∧ 0 ≤ f ∧ f ≤ 1 ∧ m0.1 42 0 f.toNat < 1000)) m0 m44 := by rw [hm44]; exact zfr_wI hFm39 (show (42 = 34 ∧ f.toNat = 0) ∨ (42 = 34 ∧ f.toNat = 15) ∨ (42 = 46) ∨ (42 = 44) ∨ (42 = 45) ∨ (42 = 43 ∧ 3 * f.toNat ≤ f.toNat ∧ f.toNat < 3 * f.toNat + 3 ∧ 0 ≤ f ∧ f ≤ 1 ∧ m0.1 42 0 f.toNat < 1000) ∨ (42 = 42 ∧ f.toNat = f.toNat ∧ 0 ≤ f ∧ f ≤ 1 ∧ m0.1 42 0 f.toNat < 1000) from Or.inr (Or.inr (Or.inr (Or.inr (Or.inr (Or.inr ((show (42 = 42 ∧ f.toNat = f.toNat ∧ 0 ≤ f ∧ f ≤ 1 ∧ m0.1 42 0 f.toNat < 1000) from by omega))))))))
          have s45 : m44.1 42 0 f.toNat = (m39.1 42 0 f.toNat) + 1 := by rw [hm44]; exact wuI_self
          have w46 : m44.1 34 0 0 = m39.1 34 0 0 := by rw [hm44]; rfl
          have w47 : m44.1 37 0 f.toNat = m39.1 37 0 f.toNat := by rw [hm44]; rfl
          have b48 : 0 ≤ m44.1 42 0 f.toNat ∧ m44.1 42 0 f.toNat ≤ 1000 := hGm44.1 42 _ rfl _ _
          have t49 : (0 ≤ (m44.1 42 0 f.toNat) → (m44.1 42 0 f.toNat).tmod 3 = (m44.1 42 0 f.toNat) % 3) ∧ ((m44.1 42 0 f.toNat) < 0 → (m44.1 42 0 f.toNat).tmod 3 = -((-((m44.1 42 0 f.toNat))) % 3)) := ⟨fun z => Int.tmod_eq_emod_of_nonneg z, fun z => wtmod_neg z⟩
          refine ww_go 18 (pc' := 81) (L' := [(2, .inl ((3 * f) + ((m44.1 42 0 f.toNat).tmod 3))), (0, .inr (.inr (.inl (some (34, 0))))), (1, .inl f)]) (st' := [.inl (m44.1 42 0 f.toNat), .inl ((3 * f) + ((m44.1 42 0 f.toNat).tmod 3)), .inl f, .inr (.inr (.inl (some (34, 0))))]) (m' := m44) (o := some ((0 < 1) ∧ (0 < 1 ∧ 0 ≤ f ∧ f < ((2 : Nat) : Int)) ∧ (-2147483648 ≤ m44.1 42 0 f.toNat ∧ m44.1 42 0 f.toNat ≤ 2147483647 ∧ 0 < (3 : Int) ∧ (3 : Int) ≤ 2147483647) ∧ (0 < 1) ∧ (0 < 1 ∧ 0 ≤ f ∧ f < ((2 : Nat) : Int)))) rfl (show (0 < 1) ∧ (0 < 1 ∧ 0 ≤ f ∧ f < ((2 : Nat) : Int)) ∧ (-2147483648 ≤ m44.1 42 0 f.toNat ∧ m44.1 42 0 f.toNat ≤ 2147483647 ∧ 0 < (3 : Int) ∧ (3 : Int) ≤ 2147483647) ∧ (0 < 1) ∧ (0 < 1 ∧ 0 ≤ f ∧ f < ((2 : Nat) : Int)) from by omega) ?_
          refine ww_call (vs := [.inr (.inr (.inl (some (34, 0)))), .inl f, .inl ((3 * f) + ((m44.1 42 0 f.toNat).tmod 3)), .inl (m44.1 42 0 f.toNat)]) (r := []) (p := 0 < 1) rfl rfl rfl rfl (show 0 < 1 from by omega) (zs221 (c := c) (by omega) f ((3 * f) + ((m44.1 42 0 f.toNat).tmod 3)) (m44.1 42 0 f.toNat) hGm44 (by omega)) ?_
          rintro _ _ m52 ⟨rfl, rfl, hGm52, hEm52, hr51⟩
          have hFm52 : zfr (fun k i j => (k = 34 ∧ j = 0) ∨ (k = 34 ∧ j = 15) ∨ (k = 46) ∨ (k = 44) ∨ (k = 45) ∨ (k = 43 ∧ 3 * f.toNat ≤ j ∧ j < 3 * f.toNat + 3 ∧ 0 ≤ f ∧ f ≤ 1 ∧ m0.1 42 0 f.toNat < 1000) ∨ (k = 42 ∧ j = f.toNat ∧ 0 ≤ f ∧ f ≤ 1 ∧ m0.1 42 0 f.toNat < 1000)) m0 m52 := zfr_tr hFm44 hEm52 (fun k i j z => Or.elim z (fun z => Or.inr (Or.inr (Or.inr (Or.inr (Or.inl z))))) (fun z => Or.inr (Or.inr (Or.inr (Or.inl z)))))
          have w53 : m52.1 34 0 0 = m44.1 34 0 0 := (hEm52 34 0 0 (show ¬ ((34 = 45) ∨ (34 = 44)) from by omega)).1
          have w54 : m52.1 37 0 f.toNat = m44.1 37 0 f.toNat := (hEm52 37 0 f.toNat (show ¬ ((37 = 45) ∨ (37 = 44)) from by omega)).1
          have w55 : m52.1 42 0 f.toNat = m44.1 42 0 f.toNat := (hEm52 42 0 f.toNat (show ¬ ((42 = 45) ∨ (42 = 44)) from by omega)).1
          show wW (zK sc) zM188 84 [(2, .inl ((3 * f) + ((m44.1 42 0 f.toNat).tmod 3))), (0, .inr (.inr (.inl (some (34, 0))))), (1, .inl f)] [] _ _ _
          have b56 : 0 ≤ m52.1 37 0 f.toNat ∧ m52.1 37 0 f.toNat ≤ 6 := hGm52.1 37 _ rfl _ _
          refine ww_go 10 (pc' := 98) (L' := [(2, .inl ((3 * f) + ((m44.1 42 0 f.toNat).tmod 3))), (0, .inr (.inr (.inl (some (34, 0))))), (1, .inl f)]) (st' := []) (m' := wuI m52 43 0 (((3 * f) + ((m44.1 42 0 f.toNat).tmod 3)).toNat) (1 + (m52.1 37 0 f.toNat))) (o := some ((0 < 1) ∧ (0 < 1) ∧ (0 < 1 ∧ 0 ≤ f ∧ f < ((2 : Nat) : Int)) ∧ (0 < 1 ∧ 0 ≤ (3 * f) + ((m44.1 42 0 f.toNat).tmod 3) ∧ (3 * f) + ((m44.1 42 0 f.toNat).tmod 3) < ((6 : Nat) : Int)))) rfl (show (0 < 1) ∧ (0 < 1) ∧ (0 < 1 ∧ 0 ≤ f ∧ f < ((2 : Nat) : Int)) ∧ (0 < 1 ∧ 0 ≤ (3 * f) + ((m44.1 42 0 f.toNat).tmod 3) ∧ (3 * f) + ((m44.1 42 0 f.toNat).tmod 3) < ((6 : Nat) : Int)) from by omega) ?_
          obtain ⟨m57, hm57⟩ : ∃ zq9 : wm, zq9 = wuI m52 43 0 (((3 * f) + ((m44.1 42 0 f.toNat).tmod 3)).toNat) (1 + (m52.1 37 0 f.toNat)) := ⟨_, rfl⟩
          rw [← hm57]
          have hGm57 : zB c m57 := by rw [hm57]; exact zB_wI rfl (show 0 ≤ 1 + (m52.1 37 0 f.toNat) ∧ 1 + (m52.1 37 0 f.toNat) ≤ 7 from by omega) hGm52
          have hFm57 : zfr (fun k i j => (k = 34 ∧ j = 0) ∨ (k = 34 ∧ j = 15) ∨ (k = 46) ∨ (k = 44) ∨ (k = 45) ∨ (k = 43 ∧ 3 * f.toNat ≤ j ∧ j < 3 * f.toNat + 3 ∧ 0 ≤ f ∧ f ≤ 1 ∧ m0.1 42 0 f.toNat < 1000) ∨ (k = 42 ∧ j = f.toNat ∧ 0 ≤ f ∧ f ≤ 1 ∧ m0.1 42 0 f.toNat < 1000)) m0 m57 := by rw [hm57]; exact zfr_wI hFm52 (show (43 = 34 ∧ (((3 * f) + ((m44.1 42 0 f.toNat).tmod 3)).toNat) = 0) ∨ (43 = 34 ∧ (((3 * f) + ((m44.1 42 0 f.toNat).tmod 3)).toNat) = 15) ∨ (43 = 46) ∨ (43 = 44) ∨ (43 = 45) ∨ (43 = 43 ∧ 3 * f.toNat ≤ (((3 * f) + ((m44.1 42 0 f.toNat).tmod 3)).toNat) ∧ (((3 * f) + ((m44.1 42 0 f.toNat).tmod 3)).toNat) < 3 * f.toNat + 3 ∧ 0 ≤ f ∧ f ≤ 1 ∧ m0.1 42 0 f.toNat < 1000) ∨ (43 = 42 ∧ (((3 * f) + ((m44.1 42 0 f.toNat).tmod 3)).toNat) = f.toNat ∧ 0 ≤ f ∧ f ≤ 1 ∧ m0.1 42 0 f.toNat < 1000) from Or.inr (Or.inr (Or.inr (Or.inr (Or.inr (Or.inl ((show (43 = 43 ∧ 3 * f.toNat ≤ (((3 * f) + ((m44.1 42 0 f.toNat).tmod 3)).toNat) ∧ (((3 * f) + ((m44.1 42 0 f.toNat).tmod 3)).toNat) < 3 * f.toNat + 3 ∧ 0 ≤ f ∧ f ≤ 1 ∧ m0.1 42 0 f.toNat < 1000) from by omega))))))))
          have s58 : m57.1 43 0 (((3 * f) + ((m44.1 42 0 f.toNat).tmod 3)).toNat) = 1 + (m52.1 37 0 f.toNat) := by rw [hm57]; exact wuI_self
          have w59 : m57.1 34 0 0 = m52.1 34 0 0 := by rw [hm57]; rfl
          have w60 : m57.1 37 0 f.toNat = m52.1 37 0 f.toNat := by rw [hm57]; rfl
          have w61 : m57.1 42 0 f.toNat = m52.1 42 0 f.toNat := by rw [hm57]; rfl
          refine ww_go 2 (pc' := 100) (L' := [(3, .inl 0), (2, .inl ((3 * f) + ((m44.1 42 0 f.toNat).tmod 3))), (0, .inr (.inr (.inl (some (34, 0))))), (1, .inl f)]) (st' := []) (m' := m57) (o := none) rfl trivial ?_
          refine ww_sub (L := [(0, .inr (.inr (.inl (some (34, 0))))), (1, .inl f), (2, .inl ((3 * f) + ((m44.1 42 0 f.toNat).tmod 3))), (3, .inl 0)]) ⟨rfl, rfl, rfl, rfl, trivial⟩ rfl rfl ?_
          exact (zs188_l100 hc f hG h0 _).1 ((3 * f) + ((m44.1 42 0 f.toNat).tmod 3)) 0 m57 rfl (zB_mono hGm57 (by omega)) hFm57 (by omega) (by omega)
        · show wW (zK sc) zM188 47 [(0, .inr (.inr (.inl (some (34, 0))))), (1, .inl f)] [] _ _ _
          refine ww_go 1 (pc' := 48) (L' := [(0, .inr (.inr (.inl (some (34, 0))))), (1, .inl f)]) (st' := [.inl 0]) (m' := m39) (o := none) rfl trivial ?_
          exact ww_rI rfl rfl ⟨_, rfl, rfl, zB_mono hGm39 (by omega), hFm39, by omega⟩
  · show wW (zK sc) zM188 10 [(0, .inr (.inr (.inl (some (34, 0))))), (1, .inl f)] [.inr (.inr (.inl (some (34, 0))))] _ _ _
    refine ww_go 3 (pc' := 16) (L' := [(0, .inr (.inr (.inl (some (34, 0))))), (1, .inl f)]) (st' := [.inl 1, .inl 1, .inr (.inr (.inl (some (34, 0))))]) (m' := m0) (o := none) rfl trivial ?_
    refine ww_call (vs := [.inr (.inr (.inl (some (34, 0)))), .inl 1, .inl 1]) (r := []) (p := 0 < 1) rfl rfl rfl rfl (show 0 < 1 from by omega) (zs196 (c := c) (by omega) 1 1 hG (by omega)) ?_
    rintro _ _ m64 ⟨r62, rfl, rfl, hGm64, hEm64, hr63⟩
    have hFm64 : zfr (fun k i j => (k = 34 ∧ j = 0) ∨ (k = 34 ∧ j = 15) ∨ (k = 46) ∨ (k = 44) ∨ (k = 45) ∨ (k = 43 ∧ 3 * f.toNat ≤ j ∧ j < 3 * f.toNat + 3 ∧ 0 ≤ f ∧ f ≤ 1 ∧ m0.1 42 0 f.toNat < 1000) ∨ (k = 42 ∧ j = f.toNat ∧ 0 ≤ f ∧ f ≤ 1 ∧ m0.1 42 0 f.toNat < 1000)) m0 m64 := zfr_tr hF hEm64 (fun k i j z => Or.inl z)
    have w65 : m64.1 37 0 f.toNat = m0.1 37 0 f.toNat := (hEm64 37 0 f.toNat (show ¬ ((37 = 34 ∧ f.toNat = 0)) from by omega)).1
    have w66 : m64.1 42 0 f.toNat = m0.1 42 0 f.toNat := (hEm64 42 0 f.toNat (show ¬ ((42 = 34 ∧ f.toNat = 0)) from by omega)).1
    show wW (zK sc) zM188 19 [(0, .inr (.inr (.inl (some (34, 0))))), (1, .inl f)] [.inl r62] _ _ _
    refine ww_if (t := 47) rfl rfl (by omega) (fun (h67 : r62 ≠ 0) => ?_) (fun (h67 : ¬ (r62 ≠ 0)) => ?_)
    · show wW (zK sc) zM188 47 [(0, .inr (.inr (.inl (some (34, 0))))), (1, .inl f)] [] _ _ _
      refine ww_go 1 (pc' := 48) (L' := [(0, .inr (.inr (.inl (some (34, 0))))), (1, .inl f)]) (st' := [.inl 0]) (m' := m64) (o := none) rfl trivial ?_
      exact ww_rI rfl rfl ⟨_, rfl, rfl, zB_mono hGm64 (by omega), hFm64, by omega⟩
    · show wW (zK sc) zM188 22 [(0, .inr (.inr (.inl (some (34, 0))))), (1, .inl f)] [] _ _ _
      have b68 : 0 ≤ m64.1 42 0 f.toNat ∧ m64.1 42 0 f.toNat ≤ 1000 := hGm64.1 42 _ rfl _ _
      refine ww_go 6 (pc' := 32) (L' := [(0, .inr (.inr (.inl (some (34, 0))))), (1, .inl f)]) (st' := [.inl 1000, .inl (m64.1 42 0 f.toNat), .inr (.inr (.inl (some (34, 0))))]) (m' := m64) (o := some ((0 < 1) ∧ (0 < 1 ∧ 0 ≤ f ∧ f < ((2 : Nat) : Int)))) rfl (show (0 < 1) ∧ (0 < 1 ∧ 0 ≤ f ∧ f < ((2 : Nat) : Int)) from by omega) ?_
      refine ww_ic (t := 39) rfl rfl (by omega) (fun (h69 : m64.1 42 0 f.toNat ≠ 1000) => ?_) (fun (h69 : ¬ (m64.1 42 0 f.toNat ≠ 1000)) => ?_)
      · show wW (zK sc) zM188 39 [(0, .inr (.inr (.inl (some (34, 0))))), (1, .inl f)] [.inr (.inr (.inl (some (34, 0))))] _ _ _
        refine ww_go 2 (pc' := 41) (L' := [(0, .inr (.inr (.inl (some (34, 0))))), (1, .inl f)]) (st' := [.inl 2, .inl 0, .inr (.inr (.inl (some (34, 0))))]) (m' := m64) (o := none) rfl trivial ?_
        refine ww_call (vs := [.inr (.inr (.inl (some (34, 0)))), .inl 0, .inl 2]) (r := []) (p := 0 < 1) rfl rfl rfl rfl (show 0 < 1 from by omega) (zs196 (c := c) (by omega) 0 2 hGm64 (by omega)) ?_
        rintro _ _ m72 ⟨r70, rfl, rfl, hGm72, hEm72, hr71⟩
        have hFm72 : zfr (fun k i j => (k = 34 ∧ j = 0) ∨ (k = 34 ∧ j = 15) ∨ (k = 46) ∨ (k = 44) ∨ (k = 45) ∨ (k = 43 ∧ 3 * f.toNat ≤ j ∧ j < 3 * f.toNat + 3 ∧ 0 ≤ f ∧ f ≤ 1 ∧ m0.1 42 0 f.toNat < 1000) ∨ (k = 42 ∧ j = f.toNat ∧ 0 ≤ f ∧ f ≤ 1 ∧ m0.1 42 0 f.toNat < 1000)) m0 m72 := zfr_tr hFm64 hEm72 (fun k i j z => Or.inl z)
        have w73 : m72.1 37 0 f.toNat = m64.1 37 0 f.toNat := (hEm72 37 0 f.toNat (show ¬ ((37 = 34 ∧ f.toNat = 0)) from by omega)).1
        have w74 : m72.1 42 0 f.toNat = m64.1 42 0 f.toNat := (hEm72 42 0 f.toNat (show ¬ ((42 = 34 ∧ f.toNat = 0)) from by omega)).1
        show wW (zK sc) zM188 44 [(0, .inr (.inr (.inl (some (34, 0))))), (1, .inl f)] [.inl r70] _ _ _
        refine ww_if (t := 49) rfl rfl (by omega) (fun (h75 : r70 = 0) => ?_) (fun (h75 : ¬ (r70 = 0)) => ?_)
        · show wW (zK sc) zM188 49 [(0, .inr (.inr (.inl (some (34, 0))))), (1, .inl f)] [] _ _ _
          have b76 : 0 ≤ m72.1 42 0 f.toNat ∧ m72.1 42 0 f.toNat ≤ 1000 := hGm72.1 42 _ rfl _ _
          refine ww_go 8 (pc' := 59) (L' := [(0, .inr (.inr (.inl (some (34, 0))))), (1, .inl f)]) (st' := []) (m' := wuI m72 42 0 f.toNat ((m72.1 42 0 f.toNat) + 1)) (o := some ((0 < 1) ∧ (0 < 1 ∧ 0 ≤ f ∧ f < ((2 : Nat) : Int)) ∧ (0 < 1 ∧ 0 ≤ f ∧ f < ((2 : Nat) : Int)))) rfl (show (0 < 1) ∧ (0 < 1 ∧ 0 ≤ f ∧ f < ((2 : Nat) : Int)) ∧ (0 < 1 ∧ 0 ≤ f ∧ f < ((2 : Nat) : Int)) from by omega) ?_
          obtain ⟨m77, hm77⟩ : ∃ zq9 : wm, zq9 = wuI m72 42 0 f.toNat ((m72.1 42 0 f.toNat) + 1) := ⟨_, rfl⟩
          rw [← hm77]
          have hGm77 : zB c m77 := by rw [hm77]; exact zB_wI rfl (show 0 ≤ (m72.1 42 0 f.toNat) + 1 ∧ (m72.1 42 0 f.toNat) + 1 ≤ 1000 from by omega) hGm72
          have hFm77 : zfr (fun k i j => (k = 34 ∧ j = 0) ∨ (k = 34 ∧ j = 15) ∨ (k = 46) ∨ (k = 44) ∨ (k = 45) ∨ (k = 43 ∧ 3 * f.toNat ≤ j ∧ j < 3 * f.toNat + 3 ∧ 0 ≤ f ∧ f ≤ 1 ∧ m0.1 42 0 f.toNat < 1000) ∨ (k = 42 ∧ j = f.toNat ∧ 0 ≤ f ∧ f ≤ 1 ∧ m0.1 42 0 f.toNat < 1000)) m0 m77 := by rw [hm77]; exact zfr_wI hFm72 (show (42 = 34 ∧ f.toNat = 0) ∨ (42 = 34 ∧ f.toNat = 15) ∨ (42 = 46) ∨ (42 = 44) ∨ (42 = 45) ∨ (42 = 43 ∧ 3 * f.toNat ≤ f.toNat ∧ f.toNat < 3 * f.toNat + 3 ∧ 0 ≤ f ∧ f ≤ 1 ∧ m0.1 42 0 f.toNat < 1000) ∨ (42 = 42 ∧ f.toNat = f.toNat ∧ 0 ≤ f ∧ f ≤ 1 ∧ m0.1 42 0 f.toNat < 1000) from Or.inr (Or.inr (Or.inr (Or.inr (Or.inr (Or.inr ((show (42 = 42 ∧ f.toNat = f.toNat ∧ 0 ≤ f ∧ f ≤ 1 ∧ m0.1 42 0 f.toNat < 1000) from by omega))))))))
          have s78 : m77.1 42 0 f.toNat = (m72.1 42 0 f.toNat) + 1 := by rw [hm77]; exact wuI_self
          have w79 : m77.1 34 0 0 = m72.1 34 0 0 := by rw [hm77]; rfl
          have w80 : m77.1 37 0 f.toNat = m72.1 37 0 f.toNat := by rw [hm77]; rfl
          have b81 : 0 ≤ m77.1 42 0 f.toNat ∧ m77.1 42 0 f.toNat ≤ 1000 := hGm77.1 42 _ rfl _ _
          have t82 : (0 ≤ (m77.1 42 0 f.toNat) → (m77.1 42 0 f.toNat).tmod 3 = (m77.1 42 0 f.toNat) % 3) ∧ ((m77.1 42 0 f.toNat) < 0 → (m77.1 42 0 f.toNat).tmod 3 = -((-((m77.1 42 0 f.toNat))) % 3)) := ⟨fun z => Int.tmod_eq_emod_of_nonneg z, fun z => wtmod_neg z⟩
          refine ww_go 18 (pc' := 81) (L' := [(2, .inl ((3 * f) + ((m77.1 42 0 f.toNat).tmod 3))), (0, .inr (.inr (.inl (some (34, 0))))), (1, .inl f)]) (st' := [.inl (m77.1 42 0 f.toNat), .inl ((3 * f) + ((m77.1 42 0 f.toNat).tmod 3)), .inl f, .inr (.inr (.inl (some (34, 0))))]) (m' := m77) (o := some ((0 < 1) ∧ (0 < 1 ∧ 0 ≤ f ∧ f < ((2 : Nat) : Int)) ∧ (-2147483648 ≤ m77.1 42 0 f.toNat ∧ m77.1 42 0 f.toNat ≤ 2147483647 ∧ 0 < (3 : Int) ∧ (3 : Int) ≤ 2147483647) ∧ (0 < 1) ∧ (0 < 1 ∧ 0 ≤ f ∧ f < ((2 : Nat) : Int)))) rfl (show (0 < 1) ∧ (0 < 1 ∧ 0 ≤ f ∧ f < ((2 : Nat) : Int)) ∧ (-2147483648 ≤ m77.1 42 0 f.toNat ∧ m77.1 42 0 f.toNat ≤ 2147483647 ∧ 0 < (3 : Int) ∧ (3 : Int) ≤ 2147483647) ∧ (0 < 1) ∧ (0 < 1 ∧ 0 ≤ f ∧ f < ((2 : Nat) : Int)) from by omega) ?_
          refine ww_call (vs := [.inr (.inr (.inl (some (34, 0)))), .inl f, .inl ((3 * f) + ((m77.1 42 0 f.toNat).tmod 3)), .inl (m77.1 42 0 f.toNat)]) (r := []) (p := 0 < 1) rfl rfl rfl rfl (show 0 < 1 from by omega) (zs221 (c := c) (by omega) f ((3 * f) + ((m77.1 42 0 f.toNat).tmod 3)) (m77.1 42 0 f.toNat) hGm77 (by omega)) ?_
          rintro _ _ m85 ⟨rfl, rfl, hGm85, hEm85, hr84⟩
          have hFm85 : zfr (fun k i j => (k = 34 ∧ j = 0) ∨ (k = 34 ∧ j = 15) ∨ (k = 46) ∨ (k = 44) ∨ (k = 45) ∨ (k = 43 ∧ 3 * f.toNat ≤ j ∧ j < 3 * f.toNat + 3 ∧ 0 ≤ f ∧ f ≤ 1 ∧ m0.1 42 0 f.toNat < 1000) ∨ (k = 42 ∧ j = f.toNat ∧ 0 ≤ f ∧ f ≤ 1 ∧ m0.1 42 0 f.toNat < 1000)) m0 m85 := zfr_tr hFm77 hEm85 (fun k i j z => Or.elim z (fun z => Or.inr (Or.inr (Or.inr (Or.inr (Or.inl z))))) (fun z => Or.inr (Or.inr (Or.inr (Or.inl z)))))
          have w86 : m85.1 34 0 0 = m77.1 34 0 0 := (hEm85 34 0 0 (show ¬ ((34 = 45) ∨ (34 = 44)) from by omega)).1
          have w87 : m85.1 37 0 f.toNat = m77.1 37 0 f.toNat := (hEm85 37 0 f.toNat (show ¬ ((37 = 45) ∨ (37 = 44)) from by omega)).1
          have w88 : m85.1 42 0 f.toNat = m77.1 42 0 f.toNat := (hEm85 42 0 f.toNat (show ¬ ((42 = 45) ∨ (42 = 44)) from by omega)).1
          show wW (zK sc) zM188 84 [(2, .inl ((3 * f) + ((m77.1 42 0 f.toNat).tmod 3))), (0, .inr (.inr (.inl (some (34, 0))))), (1, .inl f)] [] _ _ _
          have b89 : 0 ≤ m85.1 37 0 f.toNat ∧ m85.1 37 0 f.toNat ≤ 6 := hGm85.1 37 _ rfl _ _
          refine ww_go 10 (pc' := 98) (L' := [(2, .inl ((3 * f) + ((m77.1 42 0 f.toNat).tmod 3))), (0, .inr (.inr (.inl (some (34, 0))))), (1, .inl f)]) (st' := []) (m' := wuI m85 43 0 (((3 * f) + ((m77.1 42 0 f.toNat).tmod 3)).toNat) (1 + (m85.1 37 0 f.toNat))) (o := some ((0 < 1) ∧ (0 < 1) ∧ (0 < 1 ∧ 0 ≤ f ∧ f < ((2 : Nat) : Int)) ∧ (0 < 1 ∧ 0 ≤ (3 * f) + ((m77.1 42 0 f.toNat).tmod 3) ∧ (3 * f) + ((m77.1 42 0 f.toNat).tmod 3) < ((6 : Nat) : Int)))) rfl (show (0 < 1) ∧ (0 < 1) ∧ (0 < 1 ∧ 0 ≤ f ∧ f < ((2 : Nat) : Int)) ∧ (0 < 1 ∧ 0 ≤ (3 * f) + ((m77.1 42 0 f.toNat).tmod 3) ∧ (3 * f) + ((m77.1 42 0 f.toNat).tmod 3) < ((6 : Nat) : Int)) from by omega) ?_
          obtain ⟨m90, hm90⟩ : ∃ zq9 : wm, zq9 = wuI m85 43 0 (((3 * f) + ((m77.1 42 0 f.toNat).tmod 3)).toNat) (1 + (m85.1 37 0 f.toNat)) := ⟨_, rfl⟩
          rw [← hm90]
          have hGm90 : zB c m90 := by rw [hm90]; exact zB_wI rfl (show 0 ≤ 1 + (m85.1 37 0 f.toNat) ∧ 1 + (m85.1 37 0 f.toNat) ≤ 7 from by omega) hGm85
          have hFm90 : zfr (fun k i j => (k = 34 ∧ j = 0) ∨ (k = 34 ∧ j = 15) ∨ (k = 46) ∨ (k = 44) ∨ (k = 45) ∨ (k = 43 ∧ 3 * f.toNat ≤ j ∧ j < 3 * f.toNat + 3 ∧ 0 ≤ f ∧ f ≤ 1 ∧ m0.1 42 0 f.toNat < 1000) ∨ (k = 42 ∧ j = f.toNat ∧ 0 ≤ f ∧ f ≤ 1 ∧ m0.1 42 0 f.toNat < 1000)) m0 m90 := by rw [hm90]; exact zfr_wI hFm85 (show (43 = 34 ∧ (((3 * f) + ((m77.1 42 0 f.toNat).tmod 3)).toNat) = 0) ∨ (43 = 34 ∧ (((3 * f) + ((m77.1 42 0 f.toNat).tmod 3)).toNat) = 15) ∨ (43 = 46) ∨ (43 = 44) ∨ (43 = 45) ∨ (43 = 43 ∧ 3 * f.toNat ≤ (((3 * f) + ((m77.1 42 0 f.toNat).tmod 3)).toNat) ∧ (((3 * f) + ((m77.1 42 0 f.toNat).tmod 3)).toNat) < 3 * f.toNat + 3 ∧ 0 ≤ f ∧ f ≤ 1 ∧ m0.1 42 0 f.toNat < 1000) ∨ (43 = 42 ∧ (((3 * f) + ((m77.1 42 0 f.toNat).tmod 3)).toNat) = f.toNat ∧ 0 ≤ f ∧ f ≤ 1 ∧ m0.1 42 0 f.toNat < 1000) from Or.inr (Or.inr (Or.inr (Or.inr (Or.inr (Or.inl ((show (43 = 43 ∧ 3 * f.toNat ≤ (((3 * f) + ((m77.1 42 0 f.toNat).tmod 3)).toNat) ∧ (((3 * f) + ((m77.1 42 0 f.toNat).tmod 3)).toNat) < 3 * f.toNat + 3 ∧ 0 ≤ f ∧ f ≤ 1 ∧ m0.1 42 0 f.toNat < 1000) from by omega))))))))
          have s91 : m90.1 43 0 (((3 * f) + ((m77.1 42 0 f.toNat).tmod 3)).toNat) = 1 + (m85.1 37 0 f.toNat) := by rw [hm90]; exact wuI_self
          have w92 : m90.1 34 0 0 = m85.1 34 0 0 := by rw [hm90]; rfl
          have w93 : m90.1 37 0 f.toNat = m85.1 37 0 f.toNat := by rw [hm90]; rfl
          have w94 : m90.1 42 0 f.toNat = m85.1 42 0 f.toNat := by rw [hm90]; rfl
          refine ww_go 2 (pc' := 100) (L' := [(3, .inl 0), (2, .inl ((3 * f) + ((m77.1 42 0 f.toNat).tmod 3))), (0, .inr (.inr (.inl (some (34, 0))))), (1, .inl f)]) (st' := []) (m' := m90) (o := none) rfl trivial ?_
          refine ww_sub (L := [(0, .inr (.inr (.inl (some (34, 0))))), (1, .inl f), (2, .inl ((3 * f) + ((m77.1 42 0 f.toNat).tmod 3))), (3, .inl 0)]) ⟨rfl, rfl, rfl, rfl, trivial⟩ rfl rfl ?_
          exact (zs188_l100 hc f hG h0 _).1 ((3 * f) + ((m77.1 42 0 f.toNat).tmod 3)) 0 m90 rfl (zB_mono hGm90 (by omega)) hFm90 (by omega) (by omega)
        · show wW (zK sc) zM188 47 [(0, .inr (.inr (.inl (some (34, 0))))), (1, .inl f)] [] _ _ _
          refine ww_go 1 (pc' := 48) (L' := [(0, .inr (.inr (.inl (some (34, 0))))), (1, .inl f)]) (st' := [.inl 0]) (m' := m72) (o := none) rfl trivial ?_
          exact ww_rI rfl rfl ⟨_, rfl, rfl, zB_mono hGm72 (by omega), hFm72, by omega⟩
      · show wW (zK sc) zM188 35 [(0, .inr (.inr (.inl (some (34, 0))))), (1, .inl f)] [.inr (.inr (.inl (some (34, 0))))] _ _ _
        refine ww_go 3 (pc' := 41) (L' := [(0, .inr (.inr (.inl (some (34, 0))))), (1, .inl f)]) (st' := [.inl 2, .inl 1, .inr (.inr (.inl (some (34, 0))))]) (m' := m64) (o := none) rfl trivial ?_
        refine ww_call (vs := [.inr (.inr (.inl (some (34, 0)))), .inl 1, .inl 2]) (r := []) (p := 0 < 1) rfl rfl rfl rfl (show 0 < 1 from by omega) (zs196 (c := c) (by omega) 1 2 hGm64 (by omega)) ?_
        rintro _ _ m97 ⟨r95, rfl, rfl, hGm97, hEm97, hr96⟩
        have hFm97 : zfr (fun k i j => (k = 34 ∧ j = 0) ∨ (k = 34 ∧ j = 15) ∨ (k = 46) ∨ (k = 44) ∨ (k = 45) ∨ (k = 43 ∧ 3 * f.toNat ≤ j ∧ j < 3 * f.toNat + 3 ∧ 0 ≤ f ∧ f ≤ 1 ∧ m0.1 42 0 f.toNat < 1000) ∨ (k = 42 ∧ j = f.toNat ∧ 0 ≤ f ∧ f ≤ 1 ∧ m0.1 42 0 f.toNat < 1000)) m0 m97 := zfr_tr hFm64 hEm97 (fun k i j z => Or.inl z)
        have w98 : m97.1 37 0 f.toNat = m64.1 37 0 f.toNat := (hEm97 37 0 f.toNat (show ¬ ((37 = 34 ∧ f.toNat = 0)) from by omega)).1
        have w99 : m97.1 42 0 f.toNat = m64.1 42 0 f.toNat := (hEm97 42 0 f.toNat (show ¬ ((42 = 34 ∧ f.toNat = 0)) from by omega)).1
        show wW (zK sc) zM188 44 [(0, .inr (.inr (.inl (some (34, 0))))), (1, .inl f)] [.inl r95] _ _ _
        refine ww_if (t := 49) rfl rfl (by omega) (fun (h100 : r95 = 0) => ?_) (fun (h100 : ¬ (r95 = 0)) => ?_)
        · show wW (zK sc) zM188 49 [(0, .inr (.inr (.inl (some (34, 0))))), (1, .inl f)] [] _ _ _
          have b101 : 0 ≤ m97.1 42 0 f.toNat ∧ m97.1 42 0 f.toNat ≤ 1000 := hGm97.1 42 _ rfl _ _
          refine ww_go 8 (pc' := 59) (L' := [(0, .inr (.inr (.inl (some (34, 0))))), (1, .inl f)]) (st' := []) (m' := wuI m97 42 0 f.toNat ((m97.1 42 0 f.toNat) + 1)) (o := some ((0 < 1) ∧ (0 < 1 ∧ 0 ≤ f ∧ f < ((2 : Nat) : Int)) ∧ (0 < 1 ∧ 0 ≤ f ∧ f < ((2 : Nat) : Int)))) rfl (show (0 < 1) ∧ (0 < 1 ∧ 0 ≤ f ∧ f < ((2 : Nat) : Int)) ∧ (0 < 1 ∧ 0 ≤ f ∧ f < ((2 : Nat) : Int)) from by omega) ?_
          obtain ⟨m102, hm102⟩ : ∃ zq9 : wm, zq9 = wuI m97 42 0 f.toNat ((m97.1 42 0 f.toNat) + 1) := ⟨_, rfl⟩
          rw [← hm102]
          have hGm102 : zB c m102 := by rw [hm102]; exact zB_wI rfl (show 0 ≤ (m97.1 42 0 f.toNat) + 1 ∧ (m97.1 42 0 f.toNat) + 1 ≤ 1000 from by omega) hGm97
          have hFm102 : zfr (fun k i j => (k = 34 ∧ j = 0) ∨ (k = 34 ∧ j = 15) ∨ (k = 46) ∨ (k = 44) ∨ (k = 45) ∨ (k = 43 ∧ 3 * f.toNat ≤ j ∧ j < 3 * f.toNat + 3 ∧ 0 ≤ f ∧ f ≤ 1 ∧ m0.1 42 0 f.toNat < 1000) ∨ (k = 42 ∧ j = f.toNat ∧ 0 ≤ f ∧ f ≤ 1 ∧ m0.1 42 0 f.toNat < 1000)) m0 m102 := by rw [hm102]; exact zfr_wI hFm97 (show (42 = 34 ∧ f.toNat = 0) ∨ (42 = 34 ∧ f.toNat = 15) ∨ (42 = 46) ∨ (42 = 44) ∨ (42 = 45) ∨ (42 = 43 ∧ 3 * f.toNat ≤ f.toNat ∧ f.toNat < 3 * f.toNat + 3 ∧ 0 ≤ f ∧ f ≤ 1 ∧ m0.1 42 0 f.toNat < 1000) ∨ (42 = 42 ∧ f.toNat = f.toNat ∧ 0 ≤ f ∧ f ≤ 1 ∧ m0.1 42 0 f.toNat < 1000) from Or.inr (Or.inr (Or.inr (Or.inr (Or.inr (Or.inr ((show (42 = 42 ∧ f.toNat = f.toNat ∧ 0 ≤ f ∧ f ≤ 1 ∧ m0.1 42 0 f.toNat < 1000) from by omega))))))))
          have s103 : m102.1 42 0 f.toNat = (m97.1 42 0 f.toNat) + 1 := by rw [hm102]; exact wuI_self
          have w104 : m102.1 34 0 0 = m97.1 34 0 0 := by rw [hm102]; rfl
          have w105 : m102.1 37 0 f.toNat = m97.1 37 0 f.toNat := by rw [hm102]; rfl
          have b106 : 0 ≤ m102.1 42 0 f.toNat ∧ m102.1 42 0 f.toNat ≤ 1000 := hGm102.1 42 _ rfl _ _
          have t107 : (0 ≤ (m102.1 42 0 f.toNat) → (m102.1 42 0 f.toNat).tmod 3 = (m102.1 42 0 f.toNat) % 3) ∧ ((m102.1 42 0 f.toNat) < 0 → (m102.1 42 0 f.toNat).tmod 3 = -((-((m102.1 42 0 f.toNat))) % 3)) := ⟨fun z => Int.tmod_eq_emod_of_nonneg z, fun z => wtmod_neg z⟩
          refine ww_go 18 (pc' := 81) (L' := [(2, .inl ((3 * f) + ((m102.1 42 0 f.toNat).tmod 3))), (0, .inr (.inr (.inl (some (34, 0))))), (1, .inl f)]) (st' := [.inl (m102.1 42 0 f.toNat), .inl ((3 * f) + ((m102.1 42 0 f.toNat).tmod 3)), .inl f, .inr (.inr (.inl (some (34, 0))))]) (m' := m102) (o := some ((0 < 1) ∧ (0 < 1 ∧ 0 ≤ f ∧ f < ((2 : Nat) : Int)) ∧ (-2147483648 ≤ m102.1 42 0 f.toNat ∧ m102.1 42 0 f.toNat ≤ 2147483647 ∧ 0 < (3 : Int) ∧ (3 : Int) ≤ 2147483647) ∧ (0 < 1) ∧ (0 < 1 ∧ 0 ≤ f ∧ f < ((2 : Nat) : Int)))) rfl (show (0 < 1) ∧ (0 < 1 ∧ 0 ≤ f ∧ f < ((2 : Nat) : Int)) ∧ (-2147483648 ≤ m102.1 42 0 f.toNat ∧ m102.1 42 0 f.toNat ≤ 2147483647 ∧ 0 < (3 : Int) ∧ (3 : Int) ≤ 2147483647) ∧ (0 < 1) ∧ (0 < 1 ∧ 0 ≤ f ∧ f < ((2 : Nat) : Int)) from by omega) ?_
          refine ww_call (vs := [.inr (.inr (.inl (some (34, 0)))), .inl f, .inl ((3 * f) + ((m102.1 42 0 f.toNat).tmod 3)), .inl (m102.1 42 0 f.toNat)]) (r := []) (p := 0 < 1) rfl rfl rfl rfl (show 0 < 1 from by omega) (zs221 (c := c) (by omega) f ((3 * f) + ((m102.1 42 0 f.toNat).tmod 3)) (m102.1 42 0 f.toNat) hGm102 (by omega)) ?_
          rintro _ _ m110 ⟨rfl, rfl, hGm110, hEm110, hr109⟩
          have hFm110 : zfr (fun k i j => (k = 34 ∧ j = 0) ∨ (k = 34 ∧ j = 15) ∨ (k = 46) ∨ (k = 44) ∨ (k = 45) ∨ (k = 43 ∧ 3 * f.toNat ≤ j ∧ j < 3 * f.toNat + 3 ∧ 0 ≤ f ∧ f ≤ 1 ∧ m0.1 42 0 f.toNat < 1000) ∨ (k = 42 ∧ j = f.toNat ∧ 0 ≤ f ∧ f ≤ 1 ∧ m0.1 42 0 f.toNat < 1000)) m0 m110 := zfr_tr hFm102 hEm110 (fun k i j z => Or.elim z (fun z => Or.inr (Or.inr (Or.inr (Or.inr (Or.inl z))))) (fun z => Or.inr (Or.inr (Or.inr (Or.inl z)))))
          have w111 : m110.1 34 0 0 = m102.1 34 0 0 := (hEm110 34 0 0 (show ¬ ((34 = 45) ∨ (34 = 44)) from by omega)).1
          have w112 : m110.1 37 0 f.toNat = m102.1 37 0 f.toNat := (hEm110 37 0 f.toNat (show ¬ ((37 = 45) ∨ (37 = 44)) from by omega)).1
          have w113 : m110.1 42 0 f.toNat = m102.1 42 0 f.toNat := (hEm110 42 0 f.toNat (show ¬ ((42 = 45) ∨ (42 = 44)) from by omega)).1
          show wW (zK sc) zM188 84 [(2, .inl ((3 * f) + ((m102.1 42 0 f.toNat).tmod 3))), (0, .inr (.inr (.inl (some (34, 0))))), (1, .inl f)] [] _ _ _
          have b114 : 0 ≤ m110.1 37 0 f.toNat ∧ m110.1 37 0 f.toNat ≤ 6 := hGm110.1 37 _ rfl _ _
          refine ww_go 10 (pc' := 98) (L' := [(2, .inl ((3 * f) + ((m102.1 42 0 f.toNat).tmod 3))), (0, .inr (.inr (.inl (some (34, 0))))), (1, .inl f)]) (st' := []) (m' := wuI m110 43 0 (((3 * f) + ((m102.1 42 0 f.toNat).tmod 3)).toNat) (1 + (m110.1 37 0 f.toNat))) (o := some ((0 < 1) ∧ (0 < 1) ∧ (0 < 1 ∧ 0 ≤ f ∧ f < ((2 : Nat) : Int)) ∧ (0 < 1 ∧ 0 ≤ (3 * f) + ((m102.1 42 0 f.toNat).tmod 3) ∧ (3 * f) + ((m102.1 42 0 f.toNat).tmod 3) < ((6 : Nat) : Int)))) rfl (show (0 < 1) ∧ (0 < 1) ∧ (0 < 1 ∧ 0 ≤ f ∧ f < ((2 : Nat) : Int)) ∧ (0 < 1 ∧ 0 ≤ (3 * f) + ((m102.1 42 0 f.toNat).tmod 3) ∧ (3 * f) + ((m102.1 42 0 f.toNat).tmod 3) < ((6 : Nat) : Int)) from by omega) ?_
          obtain ⟨m115, hm115⟩ : ∃ zq9 : wm, zq9 = wuI m110 43 0 (((3 * f) + ((m102.1 42 0 f.toNat).tmod 3)).toNat) (1 + (m110.1 37 0 f.toNat)) := ⟨_, rfl⟩
          rw [← hm115]
          have hGm115 : zB c m115 := by rw [hm115]; exact zB_wI rfl (show 0 ≤ 1 + (m110.1 37 0 f.toNat) ∧ 1 + (m110.1 37 0 f.toNat) ≤ 7 from by omega) hGm110
          have hFm115 : zfr (fun k i j => (k = 34 ∧ j = 0) ∨ (k = 34 ∧ j = 15) ∨ (k = 46) ∨ (k = 44) ∨ (k = 45) ∨ (k = 43 ∧ 3 * f.toNat ≤ j ∧ j < 3 * f.toNat + 3 ∧ 0 ≤ f ∧ f ≤ 1 ∧ m0.1 42 0 f.toNat < 1000) ∨ (k = 42 ∧ j = f.toNat ∧ 0 ≤ f ∧ f ≤ 1 ∧ m0.1 42 0 f.toNat < 1000)) m0 m115 := by rw [hm115]; exact zfr_wI hFm110 (show (43 = 34 ∧ (((3 * f) + ((m102.1 42 0 f.toNat).tmod 3)).toNat) = 0) ∨ (43 = 34 ∧ (((3 * f) + ((m102.1 42 0 f.toNat).tmod 3)).toNat) = 15) ∨ (43 = 46) ∨ (43 = 44) ∨ (43 = 45) ∨ (43 = 43 ∧ 3 * f.toNat ≤ (((3 * f) + ((m102.1 42 0 f.toNat).tmod 3)).toNat) ∧ (((3 * f) + ((m102.1 42 0 f.toNat).tmod 3)).toNat) < 3 * f.toNat + 3 ∧ 0 ≤ f ∧ f ≤ 1 ∧ m0.1 42 0 f.toNat < 1000) ∨ (43 = 42 ∧ (((3 * f) + ((m102.1 42 0 f.toNat).tmod 3)).toNat) = f.toNat ∧ 0 ≤ f ∧ f ≤ 1 ∧ m0.1 42 0 f.toNat < 1000) from Or.inr (Or.inr (Or.inr (Or.inr (Or.inr (Or.inl ((show (43 = 43 ∧ 3 * f.toNat ≤ (((3 * f) + ((m102.1 42 0 f.toNat).tmod 3)).toNat) ∧ (((3 * f) + ((m102.1 42 0 f.toNat).tmod 3)).toNat) < 3 * f.toNat + 3 ∧ 0 ≤ f ∧ f ≤ 1 ∧ m0.1 42 0 f.toNat < 1000) from by omega))))))))
          have s116 : m115.1 43 0 (((3 * f) + ((m102.1 42 0 f.toNat).tmod 3)).toNat) = 1 + (m110.1 37 0 f.toNat) := by rw [hm115]; exact wuI_self
          have w117 : m115.1 34 0 0 = m110.1 34 0 0 := by rw [hm115]; rfl
          have w118 : m115.1 37 0 f.toNat = m110.1 37 0 f.toNat := by rw [hm115]; rfl
          have w119 : m115.1 42 0 f.toNat = m110.1 42 0 f.toNat := by rw [hm115]; rfl
          refine ww_go 2 (pc' := 100) (L' := [(3, .inl 0), (2, .inl ((3 * f) + ((m102.1 42 0 f.toNat).tmod 3))), (0, .inr (.inr (.inl (some (34, 0))))), (1, .inl f)]) (st' := []) (m' := m115) (o := none) rfl trivial ?_
          refine ww_sub (L := [(0, .inr (.inr (.inl (some (34, 0))))), (1, .inl f), (2, .inl ((3 * f) + ((m102.1 42 0 f.toNat).tmod 3))), (3, .inl 0)]) ⟨rfl, rfl, rfl, rfl, trivial⟩ rfl rfl ?_
          exact (zs188_l100 hc f hG h0 _).1 ((3 * f) + ((m102.1 42 0 f.toNat).tmod 3)) 0 m115 rfl (zB_mono hGm115 (by omega)) hFm115 (by omega) (by omega)
        · show wW (zK sc) zM188 47 [(0, .inr (.inr (.inl (some (34, 0))))), (1, .inl f)] [] _ _ _
          refine ww_go 1 (pc' := 48) (L' := [(0, .inr (.inr (.inl (some (34, 0))))), (1, .inl f)]) (st' := [.inl 0]) (m' := m97) (o := none) rfl trivial ?_
          exact ww_rI rfl rfl ⟨_, rfl, rfl, zB_mono hGm97 (by omega), hFm97, by omega⟩
set_option maxRecDepth 8000 in
theorem zs256_l15 {sc : xSc} {n : Nat × Nat} {m0 : wm} {c : Int} (hc : 0 ≤ c ∧ c ≤ 1000000) (f : Int) (x : Int) (y : Int) (hG : zB c m0) (h0 : 0 ≤ f ∧ f ≤ 1 ∧ 1 ≤ x ∧ x ≤ 1000 ∧ -1500000 ≤ y ∧ y ≤ 1500000) : ∀ (d : Nat), (∀ (q : Int) (u : Int) (t : Int), (7 - t).toNat * 10 + 9 = d → (q = 3 * f + x % 3 ∧ 0 ≤ t ∧ 0 ≤ u ∧ (y < 0 ∨ u ≤ y) ∧ t ≤ m0.1 43 0 q.toNat ∧ u ≤ 32 * t) → (u = zTq (zgr m0 q.toNat) t.toNat) →  wW (zK sc) zM256 15 [(0, .inr (.inr (.inl (some (34, 0))))), (1, .inl f), (2, .inl x), (3, .inl y), (4, .inl q), (5, .inl u), (6, .inl t)] [] n m0 (wr (fun vv n1 m1 => ∃ r : Int, vv = some (.inl r) ∧ n = n1 ∧ zB c m1 ∧ zfr (fun k i j => (k = 49)) m0 m1 ∧ (-225 ≤ r ∧ r ≤ 0 ∧ ((0 ≤ y ∧ y < zRT m0 (3 * f.toNat + (x % 3).toNat) ∧ r = 0) ∨ ((y < 0 ∨ zRT m0 (3 * f.toNat + (x % 3).toNat) ≤ y) ∧ r = -1 - zRT m0 (3 * f.toNat + (x % 3).toNat) ∧ m0 = m1)))))) ∧ (∀ (q : Int) (u : Int) (t : Int) (z : Int) (b : Int), (7 - t).toNat * 10 + (2 - b).toNat = d → (q = 3 * f + x % 3 ∧ 0 ≤ t ∧ 0 ≤ u ∧ (y < 0 ∨ u ≤ y) ∧ t ≤ m0.1 43 0 q.toNat ∧ t < m0.1 43 0 q.toNat ∧ 0 ≤ z ∧ z ≤ 104 ∧ 0 ≤ b ∧ b ≤ 2 ∧ (b ≤ 1 ∨ 64 < z) ∧ u ≤ 32 * t + 16 * b) → (z = m0.1 44 0 (7 * q + t).toNat) → (u = zTq (zgr m0 q.toNat) t.toNat + zTi z b) →  wW (zK sc) zM256 45 [(0, .inr (.inr (.inl (some (34, 0))))), (1, .inl f), (2, .inl x), (3, .inl y), (4, .inl q), (5, .inl u), (6, .inl t), (7, .inl z), (8, .inl b)] [] n m0 (wr (fun vv n1 m1 => ∃ r : Int, vv = some (.inl r) ∧ n = n1 ∧ zB c m1 ∧ zfr (fun k i j => (k = 49)) m0 m1 ∧ (-225 ≤ r ∧ r ≤ 0 ∧ ((0 ≤ y ∧ y < zRT m0 (3 * f.toNat + (x % 3).toNat) ∧ r = 0) ∨ ((y < 0 ∨ zRT m0 (3 * f.toNat + (x % 3).toNat) ≤ y) ∧ r = -1 - zRT m0 (3 * f.toNat + (x % 3).toNat) ∧ m0 = m1)))))) := by
  intro d
  induction d using Nat.strongRecOn with
  | ind d ih =>
    refine ⟨?_, ?_⟩
    · intro q u t hd hi hj
      have bk : 0 ≤ m0.1 43 0 q.toNat ∧ m0.1 43 0 q.toNat ≤ 7 := hG.1 43 _ rfl _ _
      have ts9 := zTq_s (g := zgr m0 q.toNat) (z := t) (by omega)
      have te9 : t = m0.1 43 0 q.toNat → zTq (zgr m0 q.toNat) t.toNat = zRT m0 q.toNat := fun h => by rw [h]; rfl
      have tm9 : t < m0.1 43 0 q.toNat → zTq (zgr m0 q.toNat) (t + 1).toNat ≤ zRT m0 q.toNat := fun h => zTq_mono _ (by omega)
      have tw9 : zgr m0 q.toNat t.toNat = m0.1 44 0 (7 * q + t).toNat := by unfold zgr; rw [show (7 * q + t).toNat = 7 * q.toNat + t.toNat from by omega]
      have tq9 : zRT m0 q.toNat = zRT m0 (3 * f.toNat + (x % 3).toNat) := by rw [show q.toNat = 3 * f.toNat + (x % 3).toNat from by omega]
      have hF : zfr (fun k i j => (k = 49)) m0 m0 := zfr_rf
      have b1 : 0 ≤ m0.1 43 0 q.toNat ∧ m0.1 43 0 q.toNat ≤ 7 := hG.1 43 _ rfl _ _
      refine ww_go 5 (pc' := 24) (L' := [(0, .inr (.inr (.inl (some (34, 0))))), (1, .inl f), (2, .inl x), (3, .inl y), (4, .inl q), (5, .inl u), (6, .inl t)]) (st' := [.inl (m0.1 43 0 q.toNat), .inl t]) (m' := m0) (o := some ((0 < 1) ∧ (0 < 1 ∧ 0 ≤ q ∧ q < ((6 : Nat) : Int)))) rfl (show (0 < 1) ∧ (0 < 1 ∧ 0 ≤ q ∧ q < ((6 : Nat) : Int)) from by omega) ?_
      refine ww_ic (t := 142) rfl rfl (by omega) (fun (h2 : m0.1 43 0 q.toNat ≤ t) => ?_) (fun (h2 : ¬ (m0.1 43 0 q.toNat ≤ t)) => ?_)
      · show wW (zK sc) zM256 142 [(0, .inr (.inr (.inl (some (34, 0))))), (1, .inl f), (2, .inl x), (3, .inl y), (4, .inl q), (5, .inl u), (6, .inl t)] [] _ _ _
        refine ww_go 3 (pc' := 146) (L' := [(0, .inr (.inr (.inl (some (34, 0))))), (1, .inl f), (2, .inl x), (3, .inl y), (4, .inl q), (5, .inl u), (6, .inl t)]) (st' := [.inl (((-1)) - u)]) (m' := m0) (o := none) rfl trivial ?_
        exact ww_rI rfl rfl ⟨_, rfl, rfl, zB_mono hG (by omega), hF, ⟨by omega, by omega, Or.inr ⟨by omega, by omega, rfl⟩⟩⟩
      · show wW (zK sc) zM256 27 [(0, .inr (.inr (.inl (some (34, 0))))), (1, .inl f), (2, .inl x), (3, .inl y), (4, .inl q), (5, .inl u), (6, .inl t)] [] _ _ _
        have b3 : 0 ≤ m0.1 44 0 (((7 * q) + t).toNat) ∧ m0.1 44 0 (((7 * q) + t).toNat) ≤ 104 := hG.1 44 _ rfl _ _
        refine ww_go 11 (pc' := 45) (L' := [(8, .inl 0), (7, .inl (m0.1 44 0 (((7 * q) + t).toNat))), (0, .inr (.inr (.inl (some (34, 0))))), (1, .inl f), (2, .inl x), (3, .inl y), (4, .inl q), (5, .inl u), (6, .inl t)]) (st' := []) (m' := m0) (o := some ((0 < 1) ∧ (0 < 1 ∧ 0 ≤ (7 * q) + t ∧ (7 * q) + t < ((42 : Nat) : Int)))) rfl (show (0 < 1) ∧ (0 < 1 ∧ 0 ≤ (7 * q) + t ∧ (7 * q) + t < ((42 : Nat) : Int)) from by omega) ?_
        refine ww_sub (L := [(0, .inr (.inr (.inl (some (34, 0))))), (1, .inl f), (2, .inl x), (3, .inl y), (4, .inl q), (5, .inl u), (6, .inl t), (7, .inl (m0.1 44 0 (((7 * q) + t).toNat))), (8, .inl 0)]) ⟨rfl, rfl, rfl, rfl, rfl, rfl, rfl, rfl, rfl, trivial⟩ rfl rfl ?_
        exact (ih _ (by omega)).2 q u t (m0.1 44 0 (((7 * q) + t).toNat)) 0 rfl (by omega) (by omega) (by have z1 := zTi_0 (m0.1 44 0 (((7 * q) + t).toNat)); omega)
    · intro q u t z b hd hi hz hj
      have bk : 0 ≤ m0.1 43 0 q.toNat ∧ m0.1 43 0 q.toNat ≤ 7 := hG.1 43 _ rfl _ _
      have ts9 := zTq_s (g := zgr m0 q.toNat) (z := t) (by omega)
      have te9 : t = m0.1 43 0 q.toNat → zTq (zgr m0 q.toNat) t.toNat = zRT m0 q.toNat := fun h => by rw [h]; rfl
      have tm9 : t < m0.1 43 0 q.toNat → zTq (zgr m0 q.toNat) (t + 1).toNat ≤ zRT m0 q.toNat := fun h => zTq_mono _ (by omega)
      have tw9 : zgr m0 q.toNat t.toNat = m0.1 44 0 (7 * q + t).toNat := by unfold zgr; rw [show (7 * q + t).toNat = 7 * q.toNat + t.toNat from by omega]
      have tq9 : zRT m0 q.toNat = zRT m0 (3 * f.toNat + (x % 3).toNat) := by rw [show q.toNat = 3 * f.toNat + (x % 3).toNat from by omega]
      have ti9 := zTi_s z b
      have tj9 := zTi_e z b
      have tk9 := zTi_le z b
      have hw9 : zpkn z = zpkn (m0.1 44 0 (7 * q + t).toNat) := by rw [hz]
      rw [tw9] at ts9
      have hF : zfr (fun k i j => (k = 49)) m0 m0 := zfr_rf
      refine ww_go 2 (pc' := 49) (L' := [(0, .inr (.inr (.inl (some (34, 0))))), (1, .inl f), (2, .inl x), (3, .inl y), (4, .inl q), (5, .inl u), (6, .inl t), (7, .inl z), (8, .inl b)]) (st' := [.inl z, .inl b]) (m' := m0) (o := none) rfl trivial ?_
      refine ww_call (vs := [.inl z]) (r := [.inl b]) (p := True) rfl rfl rfl rfl trivial (zs182 z (by omega)) ?_
      rintro _ _ _ ⟨r1, rfl, rfl, rfl, hr2⟩
      show wW (zK sc) zM256 52 [(0, .inr (.inr (.inl (some (34, 0))))), (1, .inl f), (2, .inl x), (3, .inl y), (4, .inl q), (5, .inl u), (6, .inl t), (7, .inl z), (8, .inl b)] [.inl r1, .inl b] _ _ _
      refine ww_ic (t := 136) rfl rfl (by omega) (fun (h3 : r1 ≤ b) => ?_) (fun (h3 : ¬ (r1 ≤ b)) => ?_)
      · show wW (zK sc) zM256 136 [(0, .inr (.inr (.inl (some (34, 0))))), (1, .inl f), (2, .inl x), (3, .inl y), (4, .inl q), (5, .inl u), (6, .inl t), (7, .inl z), (8, .inl b)] [] _ _ _
        refine ww_go 2 (pc' := 15) (L' := [(6, .inl (t + 1)), (0, .inr (.inr (.inl (some (34, 0))))), (1, .inl f), (2, .inl x), (3, .inl y), (4, .inl q), (5, .inl u), (7, .inl z), (8, .inl b)]) (st' := []) (m' := m0) (o := none) rfl trivial ?_
        refine ww_sub (L := [(0, .inr (.inr (.inl (some (34, 0))))), (1, .inl f), (2, .inl x), (3, .inl y), (4, .inl q), (5, .inl u), (6, .inl (t + 1))]) ⟨rfl, rfl, rfl, rfl, rfl, rfl, rfl, trivial⟩ rfl rfl ?_
        exact (ih _ (by omega)).1 q u (t + 1) rfl (by omega) (by omega)
      · show wW (zK sc) zM256 55 [(0, .inr (.inr (.inl (some (34, 0))))), (1, .inl f), (2, .inl x), (3, .inl y), (4, .inl q), (5, .inl u), (6, .inl t), (7, .inl z), (8, .inl b)] [] _ _ _
        refine ww_go 3 (pc' := 60) (L' := [(0, .inr (.inr (.inl (some (34, 0))))), (1, .inl f), (2, .inl x), (3, .inl y), (4, .inl q), (5, .inl u), (6, .inl t), (7, .inl z), (8, .inl b)]) (st' := [.inl b, .inl z, .inl 2]) (m' := m0) (o := none) rfl trivial ?_
        refine ww_call (vs := [.inl z, .inl b]) (r := [.inl 2]) (p := True) rfl rfl rfl rfl trivial (zs229 z b (by omega)) ?_
        rintro _ _ _ ⟨r4, rfl, rfl, rfl, hr5⟩
        show wW (zK sc) zM256 63 [(0, .inr (.inr (.inl (some (34, 0))))), (1, .inl f), (2, .inl x), (3, .inl y), (4, .inl q), (5, .inl u), (6, .inl t), (7, .inl z), (8, .inl b)] [.inl r4, .inl 2] _ _ _
        refine ww_go 4 (pc' := 69) (L' := [(9, .inl (2 * r4)), (0, .inr (.inr (.inl (some (34, 0))))), (1, .inl f), (2, .inl x), (3, .inl y), (4, .inl q), (5, .inl u), (6, .inl t), (7, .inl z), (8, .inl b)]) (st' := [.inl u, .inl y]) (m' := m0) (o := none) rfl trivial ?_
        refine ww_ic (t := 123) rfl rfl (by omega) (fun (h6 : y < u) => ?_) (fun (h6 : ¬ (y < u)) => ?_)
        · show wW (zK sc) zM256 123 [(9, .inl (2 * r4)), (0, .inr (.inr (.inl (some (34, 0))))), (1, .inl f), (2, .inl x), (3, .inl y), (4, .inl q), (5, .inl u), (6, .inl t), (7, .inl z), (8, .inl b)] [] _ _ _
          refine ww_go 6 (pc' := 45) (L' := [(8, .inl (b + 1)), (5, .inl (u + (2 * r4))), (9, .inl (2 * r4)), (0, .inr (.inr (.inl (some (34, 0))))), (1, .inl f), (2, .inl x), (3, .inl y), (4, .inl q), (6, .inl t), (7, .inl z)]) (st' := []) (m' := m0) (o := none) rfl trivial ?_
          refine ww_sub (L := [(0, .inr (.inr (.inl (some (34, 0))))), (1, .inl f), (2, .inl x), (3, .inl y), (4, .inl q), (5, .inl (u + (2 * r4))), (6, .inl t), (7, .inl z), (8, .inl (b + 1))]) ⟨rfl, rfl, rfl, rfl, rfl, rfl, rfl, rfl, rfl, trivial⟩ rfl rfl ?_
          exact (ih _ (by omega)).2 q (u + (2 * r4)) t z (b + 1) rfl (by omega) (by omega) (by omega)
        · show wW (zK sc) zM256 72 [(9, .inl (2 * r4)), (0, .inr (.inr (.inl (some (34, 0))))), (1, .inl f), (2, .inl x), (3, .inl y), (4, .inl q), (5, .inl u), (6, .inl t), (7, .inl z), (8, .inl b)] [] _ _ _
          refine ww_go 4 (pc' := 78) (L' := [(9, .inl (2 * r4)), (0, .inr (.inr (.inl (some (34, 0))))), (1, .inl f), (2, .inl x), (3, .inl y), (4, .inl q), (5, .inl u), (6, .inl t), (7, .inl z), (8, .inl b)]) (st' := [.inl (u + (2 * r4)), .inl y]) (m' := m0) (o := none) rfl trivial ?_
          refine ww_ic (t := 123) rfl rfl (by omega) (fun (h7 : u + (2 * r4) ≤ y) => ?_) (fun (h7 : ¬ (u + (2 * r4) ≤ y)) => ?_)
          · show wW (zK sc) zM256 123 [(9, .inl (2 * r4)), (0, .inr (.inr (.inl (some (34, 0))))), (1, .inl f), (2, .inl x), (3, .inl y), (4, .inl q), (5, .inl u), (6, .inl t), (7, .inl z), (8, .inl b)] [] _ _ _
            refine ww_go 6 (pc' := 45) (L' := [(8, .inl (b + 1)), (5, .inl (u + (2 * r4))), (9, .inl (2 * r4)), (0, .inr (.inr (.inl (some (34, 0))))), (1, .inl f), (2, .inl x), (3, .inl y), (4, .inl q), (6, .inl t), (7, .inl z)]) (st' := []) (m' := m0) (o := none) rfl trivial ?_
            refine ww_sub (L := [(0, .inr (.inr (.inl (some (34, 0))))), (1, .inl f), (2, .inl x), (3, .inl y), (4, .inl q), (5, .inl (u + (2 * r4))), (6, .inl t), (7, .inl z), (8, .inl (b + 1))]) ⟨rfl, rfl, rfl, rfl, rfl, rfl, rfl, rfl, rfl, trivial⟩ rfl rfl ?_
            exact (ih _ (by omega)).2 q (u + (2 * r4)) t z (b + 1) rfl (by omega) (by omega) (by omega)
          · show wW (zK sc) zM256 81 [(9, .inl (2 * r4)), (0, .inr (.inr (.inl (some (34, 0))))), (1, .inl f), (2, .inl x), (3, .inl y), (4, .inl q), (5, .inl u), (6, .inl t), (7, .inl z), (8, .inl b)] [] _ _ _
            refine ww_go 5 (pc' := 88) (L' := [(9, .inl (2 * r4)), (0, .inr (.inr (.inl (some (34, 0))))), (1, .inl f), (2, .inl x), (3, .inl y), (4, .inl q), (5, .inl u), (6, .inl t), (7, .inl z), (8, .inl b)]) (st' := []) (m' := wuI m0 49 0 0 f) (o := some ((0 < 1) ∧ (0 < 1 ∧ 0 ≤ (0 : Int) ∧ (0 : Int) < ((5 : Nat) : Int)))) rfl (show (0 < 1) ∧ (0 < 1 ∧ 0 ≤ (0 : Int) ∧ (0 : Int) < ((5 : Nat) : Int)) from by omega) ?_
            obtain ⟨m8, hm8⟩ : ∃ zq9 : wm, zq9 = wuI m0 49 0 0 f := ⟨_, rfl⟩
            rw [← hm8]
            have hGm8 : zB c m8 := by rw [hm8]; exact zB_wI rfl (show 0 ≤ f ∧ f ≤ 1 from by omega) hG
            have hFm8 : zfr (fun k i j => (k = 49)) m0 m8 := by rw [hm8]; exact zfr_wI hF (show (49 = 49) from rfl)
            have s9 : m8.1 49 0 0 = f := by rw [hm8]; exact wuI_self
            refine ww_go 5 (pc' := 95) (L' := [(9, .inl (2 * r4)), (0, .inr (.inr (.inl (some (34, 0))))), (1, .inl f), (2, .inl x), (3, .inl y), (4, .inl q), (5, .inl u), (6, .inl t), (7, .inl z), (8, .inl b)]) (st' := []) (m' := wuI m8 49 0 1 x) (o := some ((0 < 1) ∧ (0 < 1 ∧ 0 ≤ (1 : Int) ∧ (1 : Int) < ((5 : Nat) : Int)))) rfl (show (0 < 1) ∧ (0 < 1 ∧ 0 ≤ (1 : Int) ∧ (1 : Int) < ((5 : Nat) : Int)) from by omega) ?_
            obtain ⟨m10, hm10⟩ : ∃ zq9 : wm, zq9 = wuI m8 49 0 1 x := ⟨_, rfl⟩
            rw [← hm10]
            have hGm10 : zB c m10 := by rw [hm10]; exact zB_wI rfl (show 0 ≤ x ∧ x ≤ 1000 from by omega) hGm8
            have hFm10 : zfr (fun k i j => (k = 49)) m0 m10 := by rw [hm10]; exact zfr_wI hFm8 (show (49 = 49) from rfl)
            have s11 : m10.1 49 0 1 = x := by rw [hm10]; exact wuI_self
            refine ww_go 5 (pc' := 103) (L' := [(9, .inl (2 * r4)), (0, .inr (.inr (.inl (some (34, 0))))), (1, .inl f), (2, .inl x), (3, .inl y), (4, .inl q), (5, .inl u), (6, .inl t), (7, .inl z), (8, .inl b)]) (st' := []) (m' := wuI m10 49 0 2 t) (o := some ((0 < 1) ∧ (0 < 1 ∧ 0 ≤ (2 : Int) ∧ (2 : Int) < ((5 : Nat) : Int)))) rfl (show (0 < 1) ∧ (0 < 1 ∧ 0 ≤ (2 : Int) ∧ (2 : Int) < ((5 : Nat) : Int)) from by omega) ?_
            obtain ⟨m12, hm12⟩ : ∃ zq9 : wm, zq9 = wuI m10 49 0 2 t := ⟨_, rfl⟩
            rw [← hm12]
            have hGm12 : zB c m12 := by rw [hm12]; exact zB_wI rfl (show 0 ≤ t ∧ t ≤ 6 from by omega) hGm10
            have hFm12 : zfr (fun k i j => (k = 49)) m0 m12 := by rw [hm12]; exact zfr_wI hFm10 (show (49 = 49) from rfl)
            have s13 : m12.1 49 0 2 = t := by rw [hm12]; exact wuI_self
            refine ww_go 5 (pc' := 111) (L' := [(9, .inl (2 * r4)), (0, .inr (.inr (.inl (some (34, 0))))), (1, .inl f), (2, .inl x), (3, .inl y), (4, .inl q), (5, .inl u), (6, .inl t), (7, .inl z), (8, .inl b)]) (st' := []) (m' := wuI m12 49 0 3 b) (o := some ((0 < 1) ∧ (0 < 1 ∧ 0 ≤ (3 : Int) ∧ (3 : Int) < ((5 : Nat) : Int)))) rfl (show (0 < 1) ∧ (0 < 1 ∧ 0 ≤ (3 : Int) ∧ (3 : Int) < ((5 : Nat) : Int)) from by omega) ?_
            obtain ⟨m14, hm14⟩ : ∃ zq9 : wm, zq9 = wuI m12 49 0 3 b := ⟨_, rfl⟩
            rw [← hm14]
            have hGm14 : zB c m14 := by rw [hm14]; exact zB_wI rfl (show 0 ≤ b ∧ b ≤ 1 from by omega) hGm12
            have hFm14 : zfr (fun k i j => (k = 49)) m0 m14 := by rw [hm14]; exact zfr_wI hFm12 (show (49 = 49) from rfl)
            have s15 : m14.1 49 0 3 = b := by rw [hm14]; exact wuI_self
            refine ww_go 7 (pc' := 121) (L' := [(9, .inl (2 * r4)), (0, .inr (.inr (.inl (some (34, 0))))), (1, .inl f), (2, .inl x), (3, .inl y), (4, .inl q), (5, .inl u), (6, .inl t), (7, .inl z), (8, .inl b)]) (st' := []) (m' := wuI m14 49 0 4 (y - u)) (o := some ((0 < 1) ∧ (0 < 1 ∧ 0 ≤ (4 : Int) ∧ (4 : Int) < ((5 : Nat) : Int)))) rfl (show (0 < 1) ∧ (0 < 1 ∧ 0 ≤ (4 : Int) ∧ (4 : Int) < ((5 : Nat) : Int)) from by omega) ?_
            obtain ⟨m16, hm16⟩ : ∃ zq9 : wm, zq9 = wuI m14 49 0 4 (y - u) := ⟨_, rfl⟩
            rw [← hm16]
            have hGm16 : zB c m16 := by rw [hm16]; exact zB_wI rfl (show 0 ≤ y - u ∧ y - u ≤ 31 from by omega) hGm14
            have hFm16 : zfr (fun k i j => (k = 49)) m0 m16 := by rw [hm16]; exact zfr_wI hFm14 (show (49 = 49) from rfl)
            have s17 : m16.1 49 0 4 = y - u := by rw [hm16]; exact wuI_self
            refine ww_go 1 (pc' := 122) (L' := [(9, .inl (2 * r4)), (0, .inr (.inr (.inl (some (34, 0))))), (1, .inl f), (2, .inl x), (3, .inl y), (4, .inl q), (5, .inl u), (6, .inl t), (7, .inl z), (8, .inl b)]) (st' := [.inl 0]) (m' := m16) (o := none) rfl trivial ?_
            exact ww_rI rfl rfl ⟨_, rfl, rfl, zB_mono hGm16 (by omega), hFm16, ⟨by omega, by omega, Or.inl (by omega)⟩⟩
set_option maxRecDepth 8000 in
/-- Mo.within -/
theorem zs256 {sc : xSc} {n : Nat × Nat} {m0 : wm} {c : Int} (hc : 0 ≤ c ∧ c ≤ 1000000) (f : Int) (x : Int) (y : Int) (hG : zB c m0) (h0 : 0 ≤ f ∧ f ≤ 1 ∧ 1 ≤ x ∧ x ≤ 1000 ∧ -1500000 ≤ y ∧ y ≤ 1500000) : wX (zK sc) 256 [.inr (.inr (.inl (some (34, 0)))), .inl f, .inl x, .inl y] n m0 (wr (fun vv n1 m1 => ∃ r : Int, vv = some (.inl r) ∧ n = n1 ∧ zB c m1 ∧ zfr (fun k i j => (k = 49)) m0 m1 ∧ (-225 ≤ r ∧ r ≤ 0 ∧ ((0 ≤ y ∧ y < zRT m0 (3 * f.toNat + (x % 3).toNat) ∧ r = 0) ∨ ((y < 0 ∨ zRT m0 (3 * f.toNat + (x % 3).toNat) ≤ y) ∧ r = -1 - zRT m0 (3 * f.toNat + (x % 3).toNat) ∧ m0 = m1))))) := by
  refine wX_of (N := zM256) rfl (Nat.le_of_ble_eq_true rfl) ?_
  show wW (zK sc) zM256 0 [(0, .inr (.inr (.inl (some (34, 0))))), (1, .inl f), (2, .inl x), (3, .inl y)] [] n m0 _
  have hF : zfr (fun k i j => (k = 49)) m0 m0 := zfr_rf
  have t1 : (0 ≤ x → x.tmod 3 = x % 3) ∧ (x < 0 → x.tmod 3 = -((-x) % 3)) := ⟨fun z => Int.tmod_eq_emod_of_nonneg z, fun z => wtmod_neg z⟩
  refine ww_go 12 (pc' := 15) (L' := [(6, .inl 0), (5, .inl 0), (4, .inl ((3 * f) + (x.tmod 3))), (0, .inr (.inr (.inl (some (34, 0))))), (1, .inl f), (2, .inl x), (3, .inl y)]) (st' := []) (m' := m0) (o := some ((-2147483648 ≤ x ∧ x ≤ 2147483647 ∧ 0 < (3 : Int) ∧ (3 : Int) ≤ 2147483647))) rfl (show (-2147483648 ≤ x ∧ x ≤ 2147483647 ∧ 0 < (3 : Int) ∧ (3 : Int) ≤ 2147483647) from by omega) ?_
  refine ww_sub (L := [(0, .inr (.inr (.inl (some (34, 0))))), (1, .inl f), (2, .inl x), (3, .inl y), (4, .inl ((3 * f) + (x.tmod 3))), (5, .inl 0), (6, .inl 0)]) ⟨rfl, rfl, rfl, rfl, rfl, rfl, rfl, trivial⟩ rfl rfl ?_
  exact (zs256_l15 hc f x y hG h0 _).1 ((3 * f) + (x.tmod 3)) 0 0 rfl (by have bk : 0 ≤ m0.1 43 0 (3 * f + x.tmod 3).toNat ∧ m0.1 43 0 (3 * f + x.tmod 3).toNat ≤ 7 := hG.1 43 _ rfl _ _; omega) (by exact (show (0 : Int) = zTq _ (0 : Int).toNat from rfl))
set_option maxRecDepth 8000 in
theorem zs220_l5 {sc : xSc} {n : Nat × Nat} {m0 : wm} {c : Int} (hc : 0 ≤ c ∧ c ≤ 1000000) (t : Int) (y : Int) (hG : zB c m0) (h0 : 0 ≤ t ∧ t ≤ 1 ∧ -1 ≤ y ∧ y ≤ 1000000) : ∀ (d : Nat), (∀ (u : Int) (f : Int), (2 - f).toNat * 2000 + 1999 = d → (0 ≤ f ∧ f ≤ 2 ∧ 0 ≤ u ∧ u ≤ 672 * f ∧ (y < 0 ∨ u ≤ y)) → (u = zRH m0 t f) →  wW (zK sc) zM220 5 [(0, .inr (.inr (.inl (some (34, 0))))), (1, .inl t), (2, .inl y), (3, .inl u), (4, .inl f)] [] n m0 (wr (fun vv n1 m1 => ∃ r : Int, vv = some (.inl r) ∧ n = n1 ∧ zB c m1 ∧ zfr (fun k i j => (k = 49)) m0 m1 ∧ (-1500 ≤ r ∧ r ≤ 0 ∧ ((0 ≤ y ∧ y < zRO m0 t ∧ r = 0) ∨ ((y < 0 ∨ zRO m0 t ≤ y) ∧ r = -1 - zRO m0 t ∧ m0 = m1)))))) ∧ (∀ (u : Int) (f : Int) (x : Int) (w : Int) (v : Int), (2 - f).toNat * 2000 + (1001 - v).toNat = d → (0 ≤ f ∧ f ≤ 1 ∧ 0 ≤ u ∧ 0 ≤ x ∧ x ≤ 1000 ∧ w ≤ v ∧ v ≤ x + 1 ∧ x ≤ w + 2 ∧ (1 ≤ w ∨ x = 0) ∧ 0 ≤ w ∧ u ≤ 672 * f + 224 * (v - w) ∧ (t = 1 → w = x) ∧ (t = 0 → 1 ≤ w) ∧ (y < 0 ∨ u ≤ y)) → (x = m0.1 42 0 f.toNat) → (u = zRH m0 t f + zRJ m0 t f.toNat (x - v)) →  wW (zK sc) zM220 50 [(0, .inr (.inr (.inl (some (34, 0))))), (1, .inl t), (2, .inl y), (3, .inl u), (4, .inl f), (5, .inl x), (6, .inl w), (7, .inl v)] [] n m0 (wr (fun vv n1 m1 => ∃ r : Int, vv = some (.inl r) ∧ n = n1 ∧ zB c m1 ∧ zfr (fun k i j => (k = 49)) m0 m1 ∧ (-1500 ≤ r ∧ r ≤ 0 ∧ ((0 ≤ y ∧ y < zRO m0 t ∧ r = 0) ∨ ((y < 0 ∨ zRO m0 t ≤ y) ∧ r = -1 - zRO m0 t ∧ m0 = m1)))))) := by
  intro d
  induction d using Nat.strongRecOn with
  | ind d ih =>
    refine ⟨?_, ?_⟩
    · intro u f hd hi hj
      have le9 := zRH_e m0 t f
      have hF : zfr (fun k i j => (k = 49)) m0 m0 := zfr_rf
      refine ww_go 2 (pc' := 8) (L' := [(0, .inr (.inr (.inl (some (34, 0))))), (1, .inl t), (2, .inl y), (3, .inl u), (4, .inl f)]) (st' := [.inl 2, .inl f]) (m' := m0) (o := none) rfl trivial ?_
      refine ww_ic (t := 115) rfl rfl (by omega) (fun (h1 : 2 ≤ f) => ?_) (fun (h1 : ¬ (2 ≤ f)) => ?_)
      · show wW (zK sc) zM220 115 [(0, .inr (.inr (.inl (some (34, 0))))), (1, .inl t), (2, .inl y), (3, .inl u), (4, .inl f)] [] _ _ _
        refine ww_go 3 (pc' := 118) (L' := [(0, .inr (.inr (.inl (some (34, 0))))), (1, .inl t), (2, .inl y), (3, .inl u), (4, .inl f)]) (st' := [.inl (((-1)) - u)]) (m' := m0) (o := none) rfl trivial ?_
        exact ww_rI rfl rfl ⟨_, rfl, rfl, zB_mono hG (by omega), hF, ⟨by omega, by omega, Or.inr ⟨by omega, by omega, rfl⟩⟩⟩
      · show wW (zK sc) zM220 11 [(0, .inr (.inr (.inl (some (34, 0))))), (1, .inl t), (2, .inl y), (3, .inl u), (4, .inl f)] [] _ _ _
        have b2 : 0 ≤ m0.1 42 0 f.toNat ∧ m0.1 42 0 f.toNat ≤ 1000 := hG.1 42 _ rfl _ _
        refine ww_go 7 (pc' := 22) (L' := [(5, .inl (m0.1 42 0 f.toNat)), (0, .inr (.inr (.inl (some (34, 0))))), (1, .inl t), (2, .inl y), (3, .inl u), (4, .inl f)]) (st' := [.inl 1, .inl t]) (m' := m0) (o := some ((0 < 1) ∧ (0 < 1 ∧ 0 ≤ f ∧ f < ((2 : Nat) : Int)))) rfl (show (0 < 1) ∧ (0 < 1 ∧ 0 ≤ f ∧ f < ((2 : Nat) : Int)) from by omega) ?_
        refine ww_ic (t := 30) rfl rfl (by omega) (fun (h3 : t ≠ 1) => ?_) (fun (h3 : ¬ (t ≠ 1)) => ?_)
        · show wW (zK sc) zM220 30 [(5, .inl (m0.1 42 0 f.toNat)), (0, .inr (.inr (.inl (some (34, 0))))), (1, .inl t), (2, .inl y), (3, .inl u), (4, .inl f)] [] _ _ _
          refine ww_go 2 (pc' := 33) (L' := [(5, .inl (m0.1 42 0 f.toNat)), (0, .inr (.inr (.inl (some (34, 0))))), (1, .inl t), (2, .inl y), (3, .inl u), (4, .inl f)]) (st' := [.inl 2, .inl (m0.1 42 0 f.toNat)]) (m' := m0) (o := none) rfl trivial ?_
          refine ww_ic (t := 43) rfl rfl (by omega) (fun (h4 : m0.1 42 0 f.toNat ≤ 2) => ?_) (fun (h4 : ¬ (m0.1 42 0 f.toNat ≤ 2)) => ?_)
          · show wW (zK sc) zM220 43 [(5, .inl (m0.1 42 0 f.toNat)), (0, .inr (.inr (.inl (some (34, 0))))), (1, .inl t), (2, .inl y), (3, .inl u), (4, .inl f)] [] _ _ _
            refine ww_go 4 (pc' := 50) (L' := [(7, .inl 1), (6, .inl 1), (5, .inl (m0.1 42 0 f.toNat)), (0, .inr (.inr (.inl (some (34, 0))))), (1, .inl t), (2, .inl y), (3, .inl u), (4, .inl f)]) (st' := []) (m' := m0) (o := none) rfl trivial ?_
            refine ww_sub (L := [(0, .inr (.inr (.inl (some (34, 0))))), (1, .inl t), (2, .inl y), (3, .inl u), (4, .inl f), (5, .inl (m0.1 42 0 f.toNat)), (6, .inl 1), (7, .inl 1)]) ⟨rfl, rfl, rfl, rfl, rfl, rfl, rfl, rfl, trivial⟩ rfl rfl ?_
            exact (ih _ (by omega)).2 u f (m0.1 42 0 f.toNat) 1 1 rfl (by omega) (by omega) (by have z1 := zRJ_b m0 t f.toNat 1 (m0.1 42 0 f.toNat) rfl (by omega) (by omega); omega)
          · show wW (zK sc) zM220 36 [(5, .inl (m0.1 42 0 f.toNat)), (0, .inr (.inr (.inl (some (34, 0))))), (1, .inl t), (2, .inl y), (3, .inl u), (4, .inl f)] [] _ _ _
            refine ww_go 7 (pc' := 50) (L' := [(7, .inl ((m0.1 42 0 f.toNat) - 2)), (6, .inl ((m0.1 42 0 f.toNat) - 2)), (5, .inl (m0.1 42 0 f.toNat)), (0, .inr (.inr (.inl (some (34, 0))))), (1, .inl t), (2, .inl y), (3, .inl u), (4, .inl f)]) (st' := []) (m' := m0) (o := none) rfl trivial ?_
            refine ww_sub (L := [(0, .inr (.inr (.inl (some (34, 0))))), (1, .inl t), (2, .inl y), (3, .inl u), (4, .inl f), (5, .inl (m0.1 42 0 f.toNat)), (6, .inl ((m0.1 42 0 f.toNat) - 2)), (7, .inl ((m0.1 42 0 f.toNat) - 2))]) ⟨rfl, rfl, rfl, rfl, rfl, rfl, rfl, rfl, trivial⟩ rfl rfl ?_
            exact (ih _ (by omega)).2 u f (m0.1 42 0 f.toNat) ((m0.1 42 0 f.toNat) - 2) ((m0.1 42 0 f.toNat) - 2) rfl (by omega) (by omega) (by have z1 := zRJ_b m0 t f.toNat ((m0.1 42 0 f.toNat) - 2) (m0.1 42 0 f.toNat) rfl (by omega) (by omega); omega)
        · show wW (zK sc) zM220 25 [(5, .inl (m0.1 42 0 f.toNat)), (0, .inr (.inr (.inl (some (34, 0))))), (1, .inl t), (2, .inl y), (3, .inl u), (4, .inl f)] [] _ _ _
          refine ww_go 5 (pc' := 50) (L' := [(7, .inl (m0.1 42 0 f.toNat)), (6, .inl (m0.1 42 0 f.toNat)), (5, .inl (m0.1 42 0 f.toNat)), (0, .inr (.inr (.inl (some (34, 0))))), (1, .inl t), (2, .inl y), (3, .inl u), (4, .inl f)]) (st' := []) (m' := m0) (o := none) rfl trivial ?_
          refine ww_sub (L := [(0, .inr (.inr (.inl (some (34, 0))))), (1, .inl t), (2, .inl y), (3, .inl u), (4, .inl f), (5, .inl (m0.1 42 0 f.toNat)), (6, .inl (m0.1 42 0 f.toNat)), (7, .inl (m0.1 42 0 f.toNat))]) ⟨rfl, rfl, rfl, rfl, rfl, rfl, rfl, rfl, trivial⟩ rfl rfl ?_
          exact (ih _ (by omega)).2 u f (m0.1 42 0 f.toNat) (m0.1 42 0 f.toNat) (m0.1 42 0 f.toNat) rfl (by omega) (by omega) (by have z1 := zRJ_b m0 t f.toNat (m0.1 42 0 f.toNat) (m0.1 42 0 f.toNat) rfl (by omega) (by omega); omega)
    · intro u f x w v hd hi hx hj
      have bx : 0 ≤ m0.1 42 0 f.toNat ∧ m0.1 42 0 f.toNat ≤ 1000 := hG.1 42 _ rfl _ _
      have hs9 := zRH_s m0 t f (by omega) (by omega)
      have jn9 := (zRT_nn m0 (3 * f.toNat + (v % 3).toNat)).1
      have hF : zfr (fun k i j => (k = 49)) m0 m0 := zfr_rf
      refine ww_go 2 (pc' := 54) (L' := [(0, .inr (.inr (.inl (some (34, 0))))), (1, .inl t), (2, .inl y), (3, .inl u), (4, .inl f), (5, .inl x), (6, .inl w), (7, .inl v)]) (st' := [.inl x, .inl v]) (m' := m0) (o := none) rfl trivial ?_
      refine ww_ic (t := 109) rfl rfl (by omega) (fun (h1 : x < v) => ?_) (fun (h1 : ¬ (x < v)) => ?_)
      · show wW (zK sc) zM220 109 [(0, .inr (.inr (.inl (some (34, 0))))), (1, .inl t), (2, .inl y), (3, .inl u), (4, .inl f), (5, .inl x), (6, .inl w), (7, .inl v)] [] _ _ _
        refine ww_go 2 (pc' := 5) (L' := [(4, .inl (f + 1)), (0, .inr (.inr (.inl (some (34, 0))))), (1, .inl t), (2, .inl y), (3, .inl u), (5, .inl x), (6, .inl w), (7, .inl v)]) (st' := []) (m' := m0) (o := none) rfl trivial ?_
        refine ww_sub (L := [(0, .inr (.inr (.inl (some (34, 0))))), (1, .inl t), (2, .inl y), (3, .inl u), (4, .inl (f + 1))]) ⟨rfl, rfl, rfl, rfl, rfl, trivial⟩ rfl rfl ?_
        exact (ih _ (by omega)).1 u (f + 1) rfl (by omega) (by have z1 := zRJ_e m0 t f.toNat v x hx (by omega) (by omega) (by omega); omega)
      · show wW (zK sc) zM220 57 [(0, .inr (.inr (.inl (some (34, 0))))), (1, .inl t), (2, .inl y), (3, .inl u), (4, .inl f), (5, .inl x), (6, .inl w), (7, .inl v)] [] _ _ _
        refine ww_go 1 (pc' := 59) (L' := [(0, .inr (.inr (.inl (some (34, 0))))), (1, .inl t), (2, .inl y), (3, .inl u), (4, .inl f), (5, .inl x), (6, .inl w), (7, .inl v)]) (st' := [.inl x]) (m' := m0) (o := none) rfl trivial ?_
        refine ww_if (t := 109) rfl rfl (by omega) (fun (h2 : x ≤ 0) => ?_) (fun (h2 : ¬ (x ≤ 0)) => ?_)
        · show wW (zK sc) zM220 109 [(0, .inr (.inr (.inl (some (34, 0))))), (1, .inl t), (2, .inl y), (3, .inl u), (4, .inl f), (5, .inl x), (6, .inl w), (7, .inl v)] [] _ _ _
          refine ww_go 2 (pc' := 5) (L' := [(4, .inl (f + 1)), (0, .inr (.inr (.inl (some (34, 0))))), (1, .inl t), (2, .inl y), (3, .inl u), (5, .inl x), (6, .inl w), (7, .inl v)]) (st' := []) (m' := m0) (o := none) rfl trivial ?_
          refine ww_sub (L := [(0, .inr (.inr (.inl (some (34, 0))))), (1, .inl t), (2, .inl y), (3, .inl u), (4, .inl (f + 1))]) ⟨rfl, rfl, rfl, rfl, rfl, trivial⟩ rfl rfl ?_
          exact (ih _ (by omega)).1 u (f + 1) rfl (by omega) (by have z1 := zRJ_e m0 t f.toNat v x hx (by omega) (by omega) (by omega); omega)
        · show wW (zK sc) zM220 62 [(0, .inr (.inr (.inl (some (34, 0))))), (1, .inl t), (2, .inl y), (3, .inl u), (4, .inl f), (5, .inl x), (6, .inl w), (7, .inl v)] [] _ _ _
          refine ww_go 1 (pc' := 63) (L' := [(0, .inr (.inr (.inl (some (34, 0))))), (1, .inl t), (2, .inl y), (3, .inl u), (4, .inl f), (5, .inl x), (6, .inl w), (7, .inl v)]) (st' := [.inl t]) (m' := m0) (o := none) rfl trivial ?_
          refine ww_if (t := 76) rfl rfl (by omega) (fun (h3 : t ≠ 0) => ?_) (fun (h3 : ¬ (t ≠ 0)) => ?_)
          · show wW (zK sc) zM220 76 [(0, .inr (.inr (.inl (some (34, 0))))), (1, .inl t), (2, .inl y), (3, .inl u), (4, .inl f), (5, .inl x), (6, .inl w), (7, .inl v)] [] _ _ _
            refine ww_go 6 (pc' := 84) (L' := [(0, .inr (.inr (.inl (some (34, 0))))), (1, .inl t), (2, .inl y), (3, .inl u), (4, .inl f), (5, .inl x), (6, .inl w), (7, .inl v)]) (st' := [.inl (y - u), .inl v, .inl f, .inr (.inr (.inl (some (34, 0))))]) (m' := m0) (o := none) rfl trivial ?_
            refine ww_call (vs := [.inr (.inr (.inl (some (34, 0)))), .inl f, .inl v, .inl (y - u)]) (r := []) (p := 0 < 1) rfl rfl rfl rfl (show 0 < 1 from by omega) (zs256 (c := c) (by omega) f v (y - u) hG (by omega)) ?_
            rintro _ _ m6 ⟨r4, rfl, rfl, hGm6, hEm6, hr5⟩
            have hFm6 : zfr (fun k i j => (k = 49)) m0 m6 := zfr_tr hF hEm6 (fun k i j z => z)
            show wW (zK sc) zM220 87 [(0, .inr (.inr (.inl (some (34, 0))))), (1, .inl t), (2, .inl y), (3, .inl u), (4, .inl f), (5, .inl x), (6, .inl w), (7, .inl v)] [.inl r4] _ _ _
            refine ww_go 2 (pc' := 91) (L' := [(8, .inl r4), (0, .inr (.inr (.inl (some (34, 0))))), (1, .inl t), (2, .inl y), (3, .inl u), (4, .inl f), (5, .inl x), (6, .inl w), (7, .inl v)]) (st' := [.inl r4]) (m' := m6) (o := none) rfl trivial ?_
            refine ww_if (t := 96) rfl rfl (by omega) (fun (h7 : r4 ≠ 0) => ?_) (fun (h7 : ¬ (r4 ≠ 0)) => ?_)
            · show wW (zK sc) zM220 96 [(8, .inl r4), (0, .inr (.inr (.inl (some (34, 0))))), (1, .inl t), (2, .inl y), (3, .inl u), (4, .inl f), (5, .inl x), (6, .inl w), (7, .inl v)] [] _ _ _
              have hme : m0 = m6 := (hr5).2.2.elim (fun z => absurd z.2.2 (by omega)) (fun z => z.2.2)
              have hrr := (hr5).2.2.elim (fun z => absurd z.2.2 (by omega)) (fun z => And.intro z.1 z.2.1)
              have hrb := And.intro hr5.1 hr5.2.1
              clear hr5
              rw [← hme]
              refine ww_go 8 (pc' := 50) (L' := [(7, .inl (v + 1)), (3, .inl (u + (((-1)) - r4))), (8, .inl r4), (0, .inr (.inr (.inl (some (34, 0))))), (1, .inl t), (2, .inl y), (4, .inl f), (5, .inl x), (6, .inl w)]) (st' := []) (m' := m0) (o := none) rfl trivial ?_
              refine ww_sub (L := [(0, .inr (.inr (.inl (some (34, 0))))), (1, .inl t), (2, .inl y), (3, .inl (u + (((-1)) - r4))), (4, .inl f), (5, .inl x), (6, .inl w), (7, .inl (v + 1))]) ⟨rfl, rfl, rfl, rfl, rfl, rfl, rfl, rfl, trivial⟩ rfl rfl ?_
              exact (ih _ (by omega)).2 (u + (((-1)) - r4)) f x w (v + 1) rfl (by omega) (by omega) (by have z1 := zRJ_s m0 t f.toNat v x hx (by omega) (by omega); omega)
            · show wW (zK sc) zM220 94 [(8, .inl r4), (0, .inr (.inr (.inl (some (34, 0))))), (1, .inl t), (2, .inl y), (3, .inl u), (4, .inl f), (5, .inl x), (6, .inl w), (7, .inl v)] [] _ _ _
              refine ww_go 1 (pc' := 95) (L' := [(8, .inl r4), (0, .inr (.inr (.inl (some (34, 0))))), (1, .inl t), (2, .inl y), (3, .inl u), (4, .inl f), (5, .inl x), (6, .inl w), (7, .inl v)]) (st' := [.inl 0]) (m' := m6) (o := none) rfl trivial ?_
              have hrr := (hr5).2.2.elim (fun z => And.intro z.1 z.2.1) (fun z => absurd z.2.1 (by omega))
              clear hr5
              have z1 := zRJ_s m0 t f.toNat v x hx (by omega) (by omega)
              have z2 := zR_le (m := m0) (x := t) (z := f) (v := v) (l := x) (by omega) (by omega) (by omega) hx (by omega) (by omega)
              exact ww_rI rfl rfl ⟨_, rfl, rfl, zB_mono hGm6 (by omega), hFm6, ⟨by omega, by omega, Or.inl (by omega)⟩⟩
          · show wW (zK sc) zM220 66 [(0, .inr (.inr (.inl (some (34, 0))))), (1, .inl t), (2, .inl y), (3, .inl u), (4, .inl f), (5, .inl x), (6, .inl w), (7, .inl v)] [] _ _ _
            refine ww_go 2 (pc' := 70) (L' := [(0, .inr (.inr (.inl (some (34, 0))))), (1, .inl t), (2, .inl y), (3, .inl u), (4, .inl f), (5, .inl x), (6, .inl w), (7, .inl v)]) (st' := [.inl x, .inl v]) (m' := m0) (o := none) rfl trivial ?_
            refine ww_ic (t := 76) rfl rfl (by omega) (fun (h8 : v ≠ x) => ?_) (fun (h8 : ¬ (v ≠ x)) => ?_)
            · show wW (zK sc) zM220 76 [(0, .inr (.inr (.inl (some (34, 0))))), (1, .inl t), (2, .inl y), (3, .inl u), (4, .inl f), (5, .inl x), (6, .inl w), (7, .inl v)] [] _ _ _
              refine ww_go 6 (pc' := 84) (L' := [(0, .inr (.inr (.inl (some (34, 0))))), (1, .inl t), (2, .inl y), (3, .inl u), (4, .inl f), (5, .inl x), (6, .inl w), (7, .inl v)]) (st' := [.inl (y - u), .inl v, .inl f, .inr (.inr (.inl (some (34, 0))))]) (m' := m0) (o := none) rfl trivial ?_
              refine ww_call (vs := [.inr (.inr (.inl (some (34, 0)))), .inl f, .inl v, .inl (y - u)]) (r := []) (p := 0 < 1) rfl rfl rfl rfl (show 0 < 1 from by omega) (zs256 (c := c) (by omega) f v (y - u) hG (by omega)) ?_
              rintro _ _ m11 ⟨r9, rfl, rfl, hGm11, hEm11, hr10⟩
              have hFm11 : zfr (fun k i j => (k = 49)) m0 m11 := zfr_tr hF hEm11 (fun k i j z => z)
              show wW (zK sc) zM220 87 [(0, .inr (.inr (.inl (some (34, 0))))), (1, .inl t), (2, .inl y), (3, .inl u), (4, .inl f), (5, .inl x), (6, .inl w), (7, .inl v)] [.inl r9] _ _ _
              refine ww_go 2 (pc' := 91) (L' := [(8, .inl r9), (0, .inr (.inr (.inl (some (34, 0))))), (1, .inl t), (2, .inl y), (3, .inl u), (4, .inl f), (5, .inl x), (6, .inl w), (7, .inl v)]) (st' := [.inl r9]) (m' := m11) (o := none) rfl trivial ?_
              refine ww_if (t := 96) rfl rfl (by omega) (fun (h12 : r9 ≠ 0) => ?_) (fun (h12 : ¬ (r9 ≠ 0)) => ?_)
              · show wW (zK sc) zM220 96 [(8, .inl r9), (0, .inr (.inr (.inl (some (34, 0))))), (1, .inl t), (2, .inl y), (3, .inl u), (4, .inl f), (5, .inl x), (6, .inl w), (7, .inl v)] [] _ _ _
                have hme : m0 = m11 := (hr10).2.2.elim (fun z => absurd z.2.2 (by omega)) (fun z => z.2.2)
                have hrr := (hr10).2.2.elim (fun z => absurd z.2.2 (by omega)) (fun z => And.intro z.1 z.2.1)
                have hrb := And.intro hr10.1 hr10.2.1
                clear hr10
                rw [← hme]
                refine ww_go 8 (pc' := 50) (L' := [(7, .inl (v + 1)), (3, .inl (u + (((-1)) - r9))), (8, .inl r9), (0, .inr (.inr (.inl (some (34, 0))))), (1, .inl t), (2, .inl y), (4, .inl f), (5, .inl x), (6, .inl w)]) (st' := []) (m' := m0) (o := none) rfl trivial ?_
                refine ww_sub (L := [(0, .inr (.inr (.inl (some (34, 0))))), (1, .inl t), (2, .inl y), (3, .inl (u + (((-1)) - r9))), (4, .inl f), (5, .inl x), (6, .inl w), (7, .inl (v + 1))]) ⟨rfl, rfl, rfl, rfl, rfl, rfl, rfl, rfl, trivial⟩ rfl rfl ?_
                exact (ih _ (by omega)).2 (u + (((-1)) - r9)) f x w (v + 1) rfl (by omega) (by omega) (by have z1 := zRJ_s m0 t f.toNat v x hx (by omega) (by omega); omega)
              · show wW (zK sc) zM220 94 [(8, .inl r9), (0, .inr (.inr (.inl (some (34, 0))))), (1, .inl t), (2, .inl y), (3, .inl u), (4, .inl f), (5, .inl x), (6, .inl w), (7, .inl v)] [] _ _ _
                refine ww_go 1 (pc' := 95) (L' := [(8, .inl r9), (0, .inr (.inr (.inl (some (34, 0))))), (1, .inl t), (2, .inl y), (3, .inl u), (4, .inl f), (5, .inl x), (6, .inl w), (7, .inl v)]) (st' := [.inl 0]) (m' := m11) (o := none) rfl trivial ?_
                have hrr := (hr10).2.2.elim (fun z => And.intro z.1 z.2.1) (fun z => absurd z.2.1 (by omega))
                clear hr10
                have z1 := zRJ_s m0 t f.toNat v x hx (by omega) (by omega)
                have z2 := zR_le (m := m0) (x := t) (z := f) (v := v) (l := x) (by omega) (by omega) (by omega) hx (by omega) (by omega)
                exact ww_rI rfl rfl ⟨_, rfl, rfl, zB_mono hGm11 (by omega), hFm11, ⟨by omega, by omega, Or.inl (by omega)⟩⟩
            · show wW (zK sc) zM220 73 [(0, .inr (.inr (.inl (some (34, 0))))), (1, .inl t), (2, .inl y), (3, .inl u), (4, .inl f), (5, .inl x), (6, .inl w), (7, .inl v)] [] _ _ _
              refine ww_go 3 (pc' := 50) (L' := [(7, .inl (v + 1)), (0, .inr (.inr (.inl (some (34, 0))))), (1, .inl t), (2, .inl y), (3, .inl u), (4, .inl f), (5, .inl x), (6, .inl w)]) (st' := []) (m' := m0) (o := none) rfl trivial ?_
              refine ww_sub (L := [(0, .inr (.inr (.inl (some (34, 0))))), (1, .inl t), (2, .inl y), (3, .inl u), (4, .inl f), (5, .inl x), (6, .inl w), (7, .inl (v + 1))]) ⟨rfl, rfl, rfl, rfl, rfl, rfl, rfl, rfl, trivial⟩ rfl rfl ?_
              exact (ih _ (by omega)).2 u f x w (v + 1) rfl (by omega) (by omega) (by have z1 := zRJ_p m0 t f.toNat v x (by omega) (by omega); omega)
set_option maxRecDepth 8000 in
/-- Mo.look -/
theorem zs220 {sc : xSc} {n : Nat × Nat} {m0 : wm} {c : Int} (hc : 0 ≤ c ∧ c ≤ 1000000) (t : Int) (y : Int) (hG : zB c m0) (h0 : 0 ≤ t ∧ t ≤ 1 ∧ -1 ≤ y ∧ y ≤ 1000000) : wX (zK sc) 220 [.inr (.inr (.inl (some (34, 0)))), .inl t, .inl y] n m0 (wr (fun vv n1 m1 => ∃ r : Int, vv = some (.inl r) ∧ n = n1 ∧ zB c m1 ∧ zfr (fun k i j => (k = 49)) m0 m1 ∧ (-1500 ≤ r ∧ r ≤ 0 ∧ ((0 ≤ y ∧ y < zRO m0 t ∧ r = 0) ∨ ((y < 0 ∨ zRO m0 t ≤ y) ∧ r = -1 - zRO m0 t ∧ m0 = m1))))) := by
  refine wX_of (N := zM220) rfl (Nat.le_of_ble_eq_true rfl) ?_
  show wW (zK sc) zM220 0 [(0, .inr (.inr (.inl (some (34, 0))))), (1, .inl t), (2, .inl y)] [] n m0 _
  have hF : zfr (fun k i j => (k = 49)) m0 m0 := zfr_rf
  refine ww_go 4 (pc' := 5) (L' := [(4, .inl 0), (3, .inl 0), (0, .inr (.inr (.inl (some (34, 0))))), (1, .inl t), (2, .inl y)]) (st' := []) (m' := m0) (o := none) rfl trivial ?_
  refine ww_sub (L := [(0, .inr (.inr (.inl (some (34, 0))))), (1, .inl t), (2, .inl y), (3, .inl 0), (4, .inl 0)]) ⟨rfl, rfl, rfl, rfl, rfl, trivial⟩ rfl rfl ?_
  exact (zs220_l5 hc t y hG h0 _).1 0 0 rfl (by omega) (by exact ((zRH_e m0 t 0).1 rfl).symm)
set_option maxRecDepth 8000 in
theorem zs228_l6 {sc : xSc} {n : Nat × Nat} {m : wm} {c : Int} (hc : 0 ≤ c ∧ c ≤ 1000000) (q : Int) (b : Int) (y : Int) (hG : zB c m) (h0 : 0 ≤ q ∧ q ≤ 41 ∧ 0 ≤ b ∧ b ≤ 1 ∧ 0 ≤ y ∧ y ≤ 8) : ∀ (d : Nat), ∀ (w : Int64) (k : Int), (8 - k).toNat = d → (0 ≤ k ∧ k ≤ 8) →  wW (zK sc) zM228 6 [(0, .inr (.inr (.inl (some (34, 0))))), (1, .inl q), (2, .inl b), (3, .inl y), (4, .inr (.inl w)), (6, .inl k)] [] n m (wr (fun vv n1 m1 => ∃ r : Int64, vv = some (.inr (.inl r)) ∧ n = n1 ∧ m = m1 ∧ True)) := by
  intro d
  induction d using Nat.strongRecOn with
  | ind d ih =>
    intro w k hd hi
    refine ww_go 2 (pc' := 10) (L' := [(0, .inr (.inr (.inl (some (34, 0))))), (1, .inl q), (2, .inl b), (3, .inl y), (4, .inr (.inl w)), (6, .inl k)]) (st' := [.inl 8, .inl k]) (m' := m) (o := none) rfl trivial ?_
    refine ww_ic (t := 69) rfl rfl (by omega) (fun (h1 : 8 ≤ k) => ?_) (fun (h1 : ¬ (8 ≤ k)) => ?_)
    · show wW (zK sc) zM228 69 [(0, .inr (.inr (.inl (some (34, 0))))), (1, .inl q), (2, .inl b), (3, .inl y), (4, .inr (.inl w)), (6, .inl k)] [] _ _ _
      refine ww_go 1 (pc' := 71) (L' := [(0, .inr (.inr (.inl (some (34, 0))))), (1, .inl q), (2, .inl b), (3, .inl y), (4, .inr (.inl w)), (6, .inl k)]) (st' := [.inr (.inl w)]) (m' := m) (o := none) rfl trivial ?_
      exact ww_rL rfl rfl ⟨_, rfl, rfl, rfl, by trivial⟩
    · show wW (zK sc) zM228 13 [(0, .inr (.inr (.inl (some (34, 0))))), (1, .inl q), (2, .inl b), (3, .inl y), (4, .inr (.inl w)), (6, .inl k)] [] _ _ _
      have b2 : 0 ≤ m.1 44 0 q.toNat ∧ m.1 44 0 q.toNat ≤ 104 := hG.1 44 _ rfl _ _
      refine ww_go 18 (pc' := 40) (L' := [(7, .inl (((64 * b) + (8 * y)) + k)), (0, .inr (.inr (.inl (some (34, 0))))), (1, .inl q), (2, .inl b), (3, .inl y), (4, .inr (.inl w)), (6, .inl k)]) (st' := [.inl (m.1 44 0 q.toNat), .inl (((64 * b) + (8 * y)) + k), .inr (.inl (w <<< (wi2l 8 &&& 63)))]) (m' := m) (o := some ((0 < 1) ∧ (0 < 1 ∧ 0 ≤ q ∧ q < ((42 : Nat) : Int)))) rfl (show (0 < 1) ∧ (0 < 1 ∧ 0 ≤ q ∧ q < ((42 : Nat) : Int)) from by omega) ?_
      refine ww_ic (t := 58) rfl rfl (by omega) (fun (h3 : m.1 44 0 q.toNat ≤ ((64 * b) + (8 * y)) + k) => ?_) (fun (h3 : ¬ (m.1 44 0 q.toNat ≤ ((64 * b) + (8 * y)) + k)) => ?_)
      · show wW (zK sc) zM228 58 [(7, .inl (((64 * b) + (8 * y)) + k)), (0, .inr (.inr (.inl (some (34, 0))))), (1, .inl q), (2, .inl b), (3, .inl y), (4, .inr (.inl w)), (6, .inl k)] [.inr (.inl (w <<< (wi2l 8 &&& 63)))] _ _ _
        refine ww_go 6 (pc' := 6) (L' := [(6, .inl (k + 1)), (4, .inr (.inl ((w <<< (wi2l 8 &&& 63)) ||| (wi2l 0)))), (7, .inl (((64 * b) + (8 * y)) + k)), (0, .inr (.inr (.inl (some (34, 0))))), (1, .inl q), (2, .inl b), (3, .inl y)]) (st' := []) (m' := m) (o := none) rfl trivial ?_
        refine ww_sub (L := [(0, .inr (.inr (.inl (some (34, 0))))), (1, .inl q), (2, .inl b), (3, .inl y), (4, .inr (.inl ((w <<< (wi2l 8 &&& 63)) ||| (wi2l 0)))), (6, .inl (k + 1))]) ⟨rfl, rfl, rfl, rfl, rfl, rfl, trivial⟩ rfl rfl ?_
        exact (ih _ (by omega)) ((w <<< (wi2l 8 &&& 63)) ||| (wi2l 0)) (k + 1) rfl (by omega)
      · show wW (zK sc) zM228 43 [(7, .inl (((64 * b) + (8 * y)) + k)), (0, .inr (.inr (.inl (some (34, 0))))), (1, .inl q), (2, .inl b), (3, .inl y), (4, .inr (.inl w)), (6, .inl k)] [.inr (.inl (w <<< (wi2l 8 &&& 63)))] _ _ _
        have b4 : 0 ≤ m.1 45 0 (((104 * q) + (((64 * b) + (8 * y)) + k)).toNat) ∧ m.1 45 0 (((104 * q) + (((64 * b) + (8 * y)) + k)).toNat) ≤ 255 := hG.1 45 _ rfl _ _
        refine ww_go 14 (pc' := 6) (L' := [(6, .inl (k + 1)), (4, .inr (.inl ((w <<< (wi2l 8 &&& 63)) ||| (wi2l (m.1 45 0 (((104 * q) + (((64 * b) + (8 * y)) + k)).toNat)))))), (7, .inl (((64 * b) + (8 * y)) + k)), (0, .inr (.inr (.inl (some (34, 0))))), (1, .inl q), (2, .inl b), (3, .inl y)]) (st' := []) (m' := m) (o := some ((0 < 1) ∧ (0 < 1 ∧ 0 ≤ (104 * q) + (((64 * b) + (8 * y)) + k) ∧ (104 * q) + (((64 * b) + (8 * y)) + k) < ((4368 : Nat) : Int)))) rfl (show (0 < 1) ∧ (0 < 1 ∧ 0 ≤ (104 * q) + (((64 * b) + (8 * y)) + k) ∧ (104 * q) + (((64 * b) + (8 * y)) + k) < ((4368 : Nat) : Int)) from by omega) ?_
        refine ww_sub (L := [(0, .inr (.inr (.inl (some (34, 0))))), (1, .inl q), (2, .inl b), (3, .inl y), (4, .inr (.inl ((w <<< (wi2l 8 &&& 63)) ||| (wi2l (m.1 45 0 (((104 * q) + (((64 * b) + (8 * y)) + k)).toNat)))))), (6, .inl (k + 1))]) ⟨rfl, rfl, rfl, rfl, rfl, rfl, trivial⟩ rfl rfl ?_
        exact (ih _ (by omega)) ((w <<< (wi2l 8 &&& 63)) ||| (wi2l (m.1 45 0 (((104 * q) + (((64 * b) + (8 * y)) + k)).toNat)))) (k + 1) rfl (by omega)
set_option maxRecDepth 8000 in
/-- Mo.piece -/
theorem zs228 {sc : xSc} {n : Nat × Nat} {m : wm} {c : Int} (hc : 0 ≤ c ∧ c ≤ 1000000) (q : Int) (b : Int) (y : Int) (hG : zB c m) (h0 : 0 ≤ q ∧ q ≤ 41 ∧ 0 ≤ b ∧ b ≤ 1 ∧ 0 ≤ y ∧ y ≤ 8) : wX (zK sc) 228 [.inr (.inr (.inl (some (34, 0)))), .inl q, .inl b, .inl y] n m (wr (fun vv n1 m1 => ∃ r : Int64, vv = some (.inr (.inl r)) ∧ n = n1 ∧ m = m1 ∧ True)) := by
  refine wX_of (N := zM228) rfl (Nat.le_of_ble_eq_true rfl) ?_
  show wW (zK sc) zM228 0 [(0, .inr (.inr (.inl (some (34, 0))))), (1, .inl q), (2, .inl b), (3, .inl y)] [] n m _
  refine ww_go 4 (pc' := 6) (L' := [(6, .inl 0), (4, .inr (.inl (Int64.ofNat 0))), (0, .inr (.inr (.inl (some (34, 0))))), (1, .inl q), (2, .inl b), (3, .inl y)]) (st' := []) (m' := m) (o := none) rfl trivial ?_
  refine ww_sub (L := [(0, .inr (.inr (.inl (some (34, 0))))), (1, .inl q), (2, .inl b), (3, .inl y), (4, .inr (.inl (Int64.ofNat 0))), (6, .inl 0)]) ⟨rfl, rfl, rfl, rfl, rfl, rfl, trivial⟩ rfl rfl ?_
  exact (zs228_l6 hc q b y hG h0 _) (Int64.ofNat 0) 0 rfl (by omega)
set_option maxRecDepth 8000 in
theorem zs218_l3 {sc : xSc} {n : Nat × Nat} {m0 : wm} {c : Int} (hc : 0 ≤ c ∧ c ≤ 1000000) (q : Int) (a : Int) (v : Int64) (y : Int) (hG : zB c m0) (h0 : 0 ≤ q ∧ q ≤ 31 ∧ 0 ≤ a ∧ 0 ≤ y ∧ a + y ≤ 24) : ∀ (d : Nat), ∀ (k : Int) (m : wm), (y - k).toNat = d → zB c m → zfr (fun k i j => (k = 47)) m0 m → (0 ≤ k ∧ k ≤ y) →  wW (zK sc) zM218 3 [(0, .inr (.inr (.inl (some (34, 0))))), (1, .inl q), (2, .inl a), (3, .inr (.inl v)), (5, .inl y), (6, .inl k)] [] n m (wr (fun vv n1 m1 => vv = none ∧ n = n1 ∧ zB c m1 ∧ zfr (fun k i j => (k = 47)) m0 m1 ∧ True)) := by
  intro d
  induction d using Nat.strongRecOn with
  | ind d ih =>
    intro k m hd hGm hFm hi
    refine ww_go 2 (pc' := 7) (L' := [(0, .inr (.inr (.inl (some (34, 0))))), (1, .inl q), (2, .inl a), (3, .inr (.inl v)), (5, .inl y), (6, .inl k)]) (st' := [.inl y, .inl k]) (m' := m) (o := none) rfl trivial ?_
    refine ww_ic (t := 47) rfl rfl (by omega) (fun (h1 : y ≤ k) => ?_) (fun (h1 : ¬ (y ≤ k)) => ?_)
    · show wW (zK sc) zM218 47 [(0, .inr (.inr (.inl (some (34, 0))))), (1, .inl q), (2, .inl a), (3, .inr (.inl v)), (5, .inl y), (6, .inl k)] [] _ _ _
      exact ww_rV rfl rfl ⟨rfl, rfl, zB_mono hGm (by omega), hFm, by trivial⟩
    · show wW (zK sc) zM218 10 [(0, .inr (.inr (.inl (some (34, 0))))), (1, .inl q), (2, .inl a), (3, .inr (.inl v)), (5, .inl y), (6, .inl k)] [] _ _ _
      have t2 := wl2i_rg ((v >>> (wi2l (8 * ((y - 1) - k)) &&& 63)) &&& (Int64.ofInt 255))
      have t3 := wl2i_255 (v >>> (wi2l (8 * ((y - 1) - k)) &&& 63))
      refine ww_go 22 (pc' := 41) (L' := [(0, .inr (.inr (.inl (some (34, 0))))), (1, .inl q), (2, .inl a), (3, .inr (.inl v)), (5, .inl y), (6, .inl k)]) (st' := []) (m' := wuI m 47 0 ((((24 * q) + a) + k).toNat) (wl2i ((v >>> (wi2l (8 * ((y - 1) - k)) &&& 63)) &&& (Int64.ofInt 255)))) (o := some ((0 < 1) ∧ (0 < 1 ∧ 0 ≤ ((24 * q) + a) + k ∧ ((24 * q) + a) + k < ((768 : Nat) : Int)))) rfl (show (0 < 1) ∧ (0 < 1 ∧ 0 ≤ ((24 * q) + a) + k ∧ ((24 * q) + a) + k < ((768 : Nat) : Int)) from by omega) ?_
      obtain ⟨m4, hm4⟩ : ∃ zq9 : wm, zq9 = wuI m 47 0 ((((24 * q) + a) + k).toNat) (wl2i ((v >>> (wi2l (8 * ((y - 1) - k)) &&& 63)) &&& (Int64.ofInt 255))) := ⟨_, rfl⟩
      rw [← hm4]
      have hGm4 : zB c m4 := by rw [hm4]; exact zB_wI rfl (show 0 ≤ wl2i ((v >>> (wi2l (8 * ((y - 1) - k)) &&& 63)) &&& (Int64.ofInt 255)) ∧ wl2i ((v >>> (wi2l (8 * ((y - 1) - k)) &&& 63)) &&& (Int64.ofInt 255)) ≤ 255 from by omega) hGm
      have hFm4 : zfr (fun k i j => (k = 47)) m0 m4 := by rw [hm4]; exact zfr_wI hFm (show (47 = 47) from rfl)
      have s5 : m4.1 47 0 ((((24 * q) + a) + k).toNat) = wl2i ((v >>> (wi2l (8 * ((y - 1) - k)) &&& 63)) &&& (Int64.ofInt 255)) := by rw [hm4]; exact wuI_self
      refine ww_go 2 (pc' := 3) (L' := [(6, .inl (k + 1)), (0, .inr (.inr (.inl (some (34, 0))))), (1, .inl q), (2, .inl a), (3, .inr (.inl v)), (5, .inl y)]) (st' := []) (m' := m4) (o := none) rfl trivial ?_
      refine ww_sub (L := [(0, .inr (.inr (.inl (some (34, 0))))), (1, .inl q), (2, .inl a), (3, .inr (.inl v)), (5, .inl y), (6, .inl (k + 1))]) ⟨rfl, rfl, rfl, rfl, rfl, rfl, trivial⟩ rfl rfl ?_
      exact (ih _ (by omega)) (k + 1) m4 rfl (zB_mono hGm4 (by omega)) hFm4 (by omega)
set_option maxRecDepth 8000 in
/-- Mo.lay -/
theorem zs218 {sc : xSc} {n : Nat × Nat} {m0 : wm} {c : Int} (hc : 0 ≤ c ∧ c ≤ 1000000) (q : Int) (a : Int) (v : Int64) (y : Int) (hG : zB c m0) (h0 : 0 ≤ q ∧ q ≤ 31 ∧ 0 ≤ a ∧ 0 ≤ y ∧ a + y ≤ 24) : wX (zK sc) 218 [.inr (.inr (.inl (some (34, 0)))), .inl q, .inl a, .inr (.inl v), .inl y] n m0 (wr (fun vv n1 m1 => vv = none ∧ n = n1 ∧ zB c m1 ∧ zfr (fun k i j => (k = 47)) m0 m1 ∧ True)) := by
  refine wX_of (N := zM218) rfl (Nat.le_of_ble_eq_true rfl) ?_
  show wW (zK sc) zM218 0 [(0, .inr (.inr (.inl (some (34, 0))))), (1, .inl q), (2, .inl a), (3, .inr (.inl v)), (5, .inl y)] [] n m0 _
  have hF : zfr (fun k i j => (k = 47)) m0 m0 := zfr_rf
  refine ww_go 2 (pc' := 3) (L' := [(6, .inl 0), (0, .inr (.inr (.inl (some (34, 0))))), (1, .inl q), (2, .inl a), (3, .inr (.inl v)), (5, .inl y)]) (st' := []) (m' := m0) (o := none) rfl trivial ?_
  refine ww_sub (L := [(0, .inr (.inr (.inl (some (34, 0))))), (1, .inl q), (2, .inl a), (3, .inr (.inl v)), (5, .inl y), (6, .inl 0)]) ⟨rfl, rfl, rfl, rfl, rfl, rfl, trivial⟩ rfl rfl ?_
  exact (zs218_l3 hc q a v y hG h0 _) 0 m0 rfl (zB_mono hG (by omega)) hF (by omega)
set_option maxRecDepth 8000 in
theorem zs202_l7 {sc : xSc} {n : Nat × Nat} {m : wm} {c : Int} (hc : 0 ≤ c ∧ c ≤ 1000000) (q : Int) (hG : zB c m) (h0 : 0 ≤ q ∧ q ≤ 31) : ∀ (d : Nat), ∀ (w : Int64) (k : Int), (16 - k).toNat = d → (0 ≤ k ∧ k ≤ 16) →  wW (zK sc) zM202 7 [(0, .inr (.inr (.inl (some (34, 0))))), (1, .inl q), (2, .inr (.inl w)), (4, .inl k)] [] n m (wr (fun vv n1 m1 => ∃ r : Int64, vv = some (.inr (.inl r)) ∧ n = n1 ∧ m = m1 ∧ True)) := by
  intro d
  induction d using Nat.strongRecOn with
  | ind d ih =>
    intro w k hd hi
    refine ww_go 2 (pc' := 11) (L' := [(0, .inr (.inr (.inl (some (34, 0))))), (1, .inl q), (2, .inr (.inl w)), (4, .inl k)]) (st' := [.inl 16, .inl k]) (m' := m) (o := none) rfl trivial ?_
    refine ww_ic (t := 37) rfl rfl (by omega) (fun (h1 : 16 ≤ k) => ?_) (fun (h1 : ¬ (16 ≤ k)) => ?_)
    · show wW (zK sc) zM202 37 [(0, .inr (.inr (.inl (some (34, 0))))), (1, .inl q), (2, .inr (.inl w)), (4, .inl k)] [] _ _ _
      refine ww_go 1 (pc' := 38) (L' := [(0, .inr (.inr (.inl (some (34, 0))))), (1, .inl q), (2, .inr (.inl w)), (4, .inl k)]) (st' := [.inr (.inl w)]) (m' := m) (o := none) rfl trivial ?_
      exact ww_rL rfl rfl ⟨_, rfl, rfl, rfl, by trivial⟩
    · show wW (zK sc) zM202 14 [(0, .inr (.inr (.inl (some (34, 0))))), (1, .inl q), (2, .inr (.inl w)), (4, .inl k)] [] _ _ _
      have b2 : 0 ≤ m.1 47 0 (((24 * q) + k).toNat) ∧ m.1 47 0 (((24 * q) + k).toNat) ≤ 255 := hG.1 47 _ rfl _ _
      refine ww_go 9 (pc' := 27) (L' := [(0, .inr (.inr (.inl (some (34, 0))))), (1, .inl q), (2, .inr (.inl w)), (4, .inl k)]) (st' := [.inl (m.1 47 0 (((24 * q) + k).toNat)), .inr (.inl w)]) (m' := m) (o := some ((0 < 1) ∧ (0 < 1 ∧ 0 ≤ (24 * q) + k ∧ (24 * q) + k < ((768 : Nat) : Int)))) rfl (show (0 < 1) ∧ (0 < 1 ∧ 0 ≤ (24 * q) + k ∧ (24 * q) + k < ((768 : Nat) : Int)) from by omega) ?_
      refine ww_call (vs := [.inr (.inl w), .inl (m.1 47 0 (((24 * q) + k).toNat))]) (r := []) (p := True) rfl rfl rfl rfl trivial (zs223 w (m.1 47 0 (((24 * q) + k).toNat))) ?_
      rintro _ _ _ ⟨r3, rfl, rfl, rfl, hr4⟩
      show wW (zK sc) zM202 30 [(0, .inr (.inr (.inl (some (34, 0))))), (1, .inl q), (2, .inr (.inl w)), (4, .inl k)] [.inr (.inl r3)] _ _ _
      refine ww_go 3 (pc' := 7) (L' := [(4, .inl (k + 1)), (2, .inr (.inl r3)), (0, .inr (.inr (.inl (some (34, 0))))), (1, .inl q)]) (st' := []) (m' := m) (o := none) rfl trivial ?_
      refine ww_sub (L := [(0, .inr (.inr (.inl (some (34, 0))))), (1, .inl q), (2, .inr (.inl r3)), (4, .inl (k + 1))]) ⟨rfl, rfl, rfl, rfl, trivial⟩ rfl rfl ?_
      exact (ih _ (by omega)) r3 (k + 1) rfl (by omega)
set_option maxRecDepth 8000 in
/-- Mo.hashOf -/
theorem zs202 {sc : xSc} {n : Nat × Nat} {m : wm} {c : Int} (hc : 0 ≤ c ∧ c ≤ 1000000) (q : Int) (hG : zB c m) (h0 : 0 ≤ q ∧ q ≤ 31) : wX (zK sc) 202 [.inr (.inr (.inl (some (34, 0)))), .inl q] n m (wr (fun vv n1 m1 => ∃ r : Int64, vv = some (.inr (.inl r)) ∧ n = n1 ∧ m = m1 ∧ True)) := by
  refine wX_of (N := zM202) rfl (Nat.le_of_ble_eq_true rfl) ?_
  show wW (zK sc) zM202 0 [(0, .inr (.inr (.inl (some (34, 0))))), (1, .inl q)] [] n m _
  refine ww_call (vs := []) (r := []) (p := True) rfl rfl rfl rfl trivial (zs181 ) ?_
  rintro _ _ _ ⟨r1, rfl, rfl, rfl, hr2⟩
  show wW (zK sc) zM202 3 [(0, .inr (.inr (.inl (some (34, 0))))), (1, .inl q)] [.inr (.inl r1)] _ _ _
  refine ww_go 3 (pc' := 7) (L' := [(4, .inl 0), (2, .inr (.inl r1)), (0, .inr (.inr (.inl (some (34, 0))))), (1, .inl q)]) (st' := []) (m' := m) (o := none) rfl trivial ?_
  refine ww_sub (L := [(0, .inr (.inr (.inl (some (34, 0))))), (1, .inl q), (2, .inr (.inl r1)), (4, .inl 0)]) ⟨rfl, rfl, rfl, rfl, trivial⟩ rfl rfl ?_
  exact (zs202_l7 hc q hG h0 _) r1 0 rfl (by omega)
set_option maxRecDepth 8000 in
theorem zs194_l5 {sc : xSc} {n : Nat × Nat} {m : wm} {c : Int} (hc : 0 ≤ c ∧ c ≤ 1000000) (q : Int) (a : Int) (hG : zB c m) (h0 : 0 ≤ q ∧ q ≤ 31 ∧ 0 ≤ a ∧ a ≤ 16) : ∀ (d : Nat), ∀ (w : Int64) (k : Int), (8 - k).toNat = d → (0 ≤ k ∧ k ≤ 8) →  wW (zK sc) zM194 5 [(0, .inr (.inr (.inl (some (34, 0))))), (1, .inl q), (2, .inl a), (3, .inr (.inl w)), (5, .inl k)] [] n m (wr (fun vv n1 m1 => ∃ r : Int64, vv = some (.inr (.inl r)) ∧ n = n1 ∧ m = m1 ∧ True)) := by
  intro d
  induction d using Nat.strongRecOn with
  | ind d ih =>
    intro w k hd hi
    refine ww_go 2 (pc' := 9) (L' := [(0, .inr (.inr (.inl (some (34, 0))))), (1, .inl q), (2, .inl a), (3, .inr (.inl w)), (5, .inl k)]) (st' := [.inl 8, .inl k]) (m' := m) (o := none) rfl trivial ?_
    refine ww_ic (t := 39) rfl rfl (by omega) (fun (h1 : 8 ≤ k) => ?_) (fun (h1 : ¬ (8 ≤ k)) => ?_)
    · show wW (zK sc) zM194 39 [(0, .inr (.inr (.inl (some (34, 0))))), (1, .inl q), (2, .inl a), (3, .inr (.inl w)), (5, .inl k)] [] _ _ _
      refine ww_go 1 (pc' := 40) (L' := [(0, .inr (.inr (.inl (some (34, 0))))), (1, .inl q), (2, .inl a), (3, .inr (.inl w)), (5, .inl k)]) (st' := [.inr (.inl w)]) (m' := m) (o := none) rfl trivial ?_
      exact ww_rL rfl rfl ⟨_, rfl, rfl, rfl, by trivial⟩
    · show wW (zK sc) zM194 12 [(0, .inr (.inr (.inl (some (34, 0))))), (1, .inl q), (2, .inl a), (3, .inr (.inl w)), (5, .inl k)] [] _ _ _
      have b2 : 0 ≤ m.1 47 0 ((((24 * q) + a) + k).toNat) ∧ m.1 47 0 ((((24 * q) + a) + k).toNat) ≤ 255 := hG.1 47 _ rfl _ _
      refine ww_go 18 (pc' := 5) (L' := [(5, .inl (k + 1)), (3, .inr (.inl ((w <<< (wi2l 8 &&& 63)) ||| (wi2l (m.1 47 0 ((((24 * q) + a) + k).toNat)))))), (0, .inr (.inr (.inl (some (34, 0))))), (1, .inl q), (2, .inl a)]) (st' := []) (m' := m) (o := some ((0 < 1) ∧ (0 < 1 ∧ 0 ≤ ((24 * q) + a) + k ∧ ((24 * q) + a) + k < ((768 : Nat) : Int)))) rfl (show (0 < 1) ∧ (0 < 1 ∧ 0 ≤ ((24 * q) + a) + k ∧ ((24 * q) + a) + k < ((768 : Nat) : Int)) from by omega) ?_
      refine ww_sub (L := [(0, .inr (.inr (.inl (some (34, 0))))), (1, .inl q), (2, .inl a), (3, .inr (.inl ((w <<< (wi2l 8 &&& 63)) ||| (wi2l (m.1 47 0 ((((24 * q) + a) + k).toNat)))))), (5, .inl (k + 1))]) ⟨rfl, rfl, rfl, rfl, rfl, trivial⟩ rfl rfl ?_
      exact (ih _ (by omega)) ((w <<< (wi2l 8 &&& 63)) ||| (wi2l (m.1 47 0 ((((24 * q) + a) + k).toNat)))) (k + 1) rfl (by omega)
set_option maxRecDepth 8000 in
/-- Mo.eight -/
theorem zs194 {sc : xSc} {n : Nat × Nat} {m : wm} {c : Int} (hc : 0 ≤ c ∧ c ≤ 1000000) (q : Int) (a : Int) (hG : zB c m) (h0 : 0 ≤ q ∧ q ≤ 31 ∧ 0 ≤ a ∧ a ≤ 16) : wX (zK sc) 194 [.inr (.inr (.inl (some (34, 0)))), .inl q, .inl a] n m (wr (fun vv n1 m1 => ∃ r : Int64, vv = some (.inr (.inl r)) ∧ n = n1 ∧ m = m1 ∧ True)) := by
  refine wX_of (N := zM194) rfl (Nat.le_of_ble_eq_true rfl) ?_
  show wW (zK sc) zM194 0 [(0, .inr (.inr (.inl (some (34, 0))))), (1, .inl q), (2, .inl a)] [] n m _
  refine ww_go 4 (pc' := 5) (L' := [(5, .inl 0), (3, .inr (.inl (Int64.ofNat 0))), (0, .inr (.inr (.inl (some (34, 0))))), (1, .inl q), (2, .inl a)]) (st' := []) (m' := m) (o := none) rfl trivial ?_
  refine ww_sub (L := [(0, .inr (.inr (.inl (some (34, 0))))), (1, .inl q), (2, .inl a), (3, .inr (.inl (Int64.ofNat 0))), (5, .inl 0)]) ⟨rfl, rfl, rfl, rfl, rfl, trivial⟩ rfl rfl ?_
  exact (zs194_l5 hc q a hG h0 _) (Int64.ofNat 0) 0 rfl (by omega)
set_option maxRecDepth 8000 in
/-- Mo.has -/
theorem zs200 {sc : xSc} {n : Nat × Nat} {m : wm} {c : Int} (hc : 0 ≤ c ∧ c ≤ 1000000) (q : Int) (hG : zB c m) (h0 : -2147483648 ≤ q ∧ q ≤ 2147483647) : wX (zK sc) 200 [.inr (.inr (.inl (some (34, 0)))), .inl q] n m (wr (fun vv n1 m1 => ∃ r : Int, vv = some (.inl r) ∧ n = n1 ∧ m = m1 ∧ ((r = 1 ∧ 0 ≤ q ∧ q ≤ 31 ∧ m.1 48 0 q.toNat = 1) ∨ (r = 0 ∧ (q < 0 ∨ 31 < q ∨ m.1 48 0 q.toNat = 0))))) := by
  refine wX_of (N := zM200) rfl (Nat.le_of_ble_eq_true rfl) ?_
  show wW (zK sc) zM200 0 [(0, .inr (.inr (.inl (some (34, 0))))), (1, .inl q)] [] n m _
  refine ww_go 3 (pc' := 4) (L' := [(0, .inr (.inr (.inl (some (34, 0))))), (1, .inl q)]) (st' := [.inl 31, .inl 0, .inl q]) (m' := m) (o := none) rfl trivial ?_
  refine ww_call (vs := [.inl q, .inl 0, .inl 31]) (r := []) (p := True) rfl rfl rfl rfl trivial (zs207 q 0 31 (by omega)) ?_
  rintro _ _ _ ⟨r1, rfl, rfl, rfl, hr2⟩
  show wW (zK sc) zM200 7 [(0, .inr (.inr (.inl (some (34, 0))))), (1, .inl q)] [.inl r1] _ _ _
  refine ww_if (t := 23) rfl rfl (by omega) (fun (h3 : r1 = 0) => ?_) (fun (h3 : ¬ (r1 = 0)) => ?_)
  · show wW (zK sc) zM200 23 [(0, .inr (.inr (.inl (some (34, 0))))), (1, .inl q)] [] _ _ _
    refine ww_go 1 (pc' := 24) (L' := [(0, .inr (.inr (.inl (some (34, 0))))), (1, .inl q)]) (st' := [.inl 0]) (m' := m) (o := none) rfl trivial ?_
    exact ww_rB rfl rfl (by omega) ⟨_, rfl, rfl, rfl, by omega⟩
  · show wW (zK sc) zM200 10 [(0, .inr (.inr (.inl (some (34, 0))))), (1, .inl q)] [] _ _ _
    have b4 : 0 ≤ m.1 48 0 q.toNat ∧ m.1 48 0 q.toNat ≤ 1 := hG.1 48 _ rfl _ _
    refine ww_go 4 (pc' := 16) (L' := [(0, .inr (.inr (.inl (some (34, 0))))), (1, .inl q)]) (st' := [.inl (m.1 48 0 q.toNat)]) (m' := m) (o := some ((0 < 1) ∧ (0 < 1 ∧ 0 ≤ q ∧ q < ((32 : Nat) : Int)))) rfl (show (0 < 1) ∧ (0 < 1 ∧ 0 ≤ q ∧ q < ((32 : Nat) : Int)) from by omega) ?_
    refine ww_if (t := 23) rfl rfl (by omega) (fun (h5 : m.1 48 0 q.toNat = 0) => ?_) (fun (h5 : ¬ (m.1 48 0 q.toNat = 0)) => ?_)
    · show wW (zK sc) zM200 23 [(0, .inr (.inr (.inl (some (34, 0))))), (1, .inl q)] [] _ _ _
      refine ww_go 1 (pc' := 24) (L' := [(0, .inr (.inr (.inl (some (34, 0))))), (1, .inl q)]) (st' := [.inl 0]) (m' := m) (o := none) rfl trivial ?_
      exact ww_rB rfl rfl (by omega) ⟨_, rfl, rfl, rfl, by omega⟩
    · show wW (zK sc) zM200 19 [(0, .inr (.inr (.inl (some (34, 0))))), (1, .inl q)] [] _ _ _
      refine ww_go 2 (pc' := 24) (L' := [(0, .inr (.inr (.inl (some (34, 0))))), (1, .inl q)]) (st' := [.inl 1]) (m' := m) (o := none) rfl trivial ?_
      exact ww_rB rfl rfl (by omega) ⟨_, rfl, rfl, rfl, by omega⟩
set_option maxRecDepth 8000 in
/-- Mo.packet -/
theorem zs227 {sc : xSc} {n : Nat × Nat} {m0 : wm} {c : Int} (hc : 0 ≤ c ∧ c ≤ 1000000) (q : Int) (a : Int) (hG : zB c m0) (h0 : -2147483648 ≤ q ∧ q ≤ 2147483647 ∧ -2147483648 ≤ a ∧ a ≤ 2147483647) : wX (zK sc) 227 [.inr (.inr (.inl (some (34, 0)))), .inl q, .inl a] n m0 (wr (fun vv n1 m1 => ∃ r : Int64, vv = some (.inr (.inl r)) ∧ n = n1 ∧ zB c m1 ∧ zfr (fun k i j => (k = 34 ∧ j = 0)) m0 m1 ∧ True)) := by
  refine wX_of (N := zM227) rfl (Nat.le_of_ble_eq_true rfl) ?_
  show wW (zK sc) zM227 0 [(0, .inr (.inr (.inl (some (34, 0))))), (1, .inl q), (2, .inl a)] [] n m0 _
  have hF : zfr (fun k i j => (k = 34 ∧ j = 0)) m0 m0 := zfr_rf
  refine ww_go 3 (pc' := 3) (L' := [(0, .inr (.inr (.inl (some (34, 0))))), (1, .inl q), (2, .inl a)]) (st' := [.inl q, .inr (.inr (.inl (some (34, 0)))), .inr (.inr (.inl (some (34, 0))))]) (m' := m0) (o := none) rfl trivial ?_
  refine ww_call (vs := [.inr (.inr (.inl (some (34, 0)))), .inl q]) (r := [.inr (.inr (.inl (some (34, 0))))]) (p := 0 < 1) rfl rfl rfl rfl (show 0 < 1 from by omega) (zs200 (c := c) (by omega) q hG (by omega)) ?_
  rintro _ _ _ ⟨r1, rfl, rfl, rfl, hr2⟩
  show wW (zK sc) zM227 6 [(0, .inr (.inr (.inl (some (34, 0))))), (1, .inl q), (2, .inl a)] [.inl r1, .inr (.inr (.inl (some (34, 0))))] _ _ _
  refine ww_if (t := 25) rfl rfl (by omega) (fun (h3 : r1 = 0) => ?_) (fun (h3 : ¬ (r1 = 0)) => ?_)
  · show wW (zK sc) zM227 25 [(0, .inr (.inr (.inl (some (34, 0))))), (1, .inl q), (2, .inl a)] [.inr (.inr (.inl (some (34, 0))))] _ _ _
    refine ww_go 3 (pc' := 31) (L' := [(0, .inr (.inr (.inl (some (34, 0))))), (1, .inl q), (2, .inl a)]) (st' := [.inl 1, .inl 1, .inr (.inr (.inl (some (34, 0))))]) (m' := m0) (o := none) rfl trivial ?_
    refine ww_call (vs := [.inr (.inr (.inl (some (34, 0)))), .inl 1, .inl 1]) (r := []) (p := 0 < 1) rfl rfl rfl rfl (show 0 < 1 from by omega) (zs196 (c := c) (by omega) 1 1 hG (by omega)) ?_
    rintro _ _ m6 ⟨r4, rfl, rfl, hGm6, hEm6, hr5⟩
    have hFm6 : zfr (fun k i j => (k = 34 ∧ j = 0)) m0 m6 := zfr_tr hF hEm6 (fun k i j z => z)
    show wW (zK sc) zM227 34 [(0, .inr (.inr (.inl (some (34, 0))))), (1, .inl q), (2, .inl a)] [.inl r4] _ _ _
    refine ww_if (t := 41) rfl rfl (by omega) (fun (h7 : r4 = 0) => ?_) (fun (h7 : ¬ (r4 = 0)) => ?_)
    · show wW (zK sc) zM227 41 [(0, .inr (.inr (.inl (some (34, 0))))), (1, .inl q), (2, .inl a)] [] _ _ _
      refine ww_go 3 (pc' := 44) (L' := [(0, .inr (.inr (.inl (some (34, 0))))), (1, .inl q), (2, .inl a)]) (st' := [.inl a, .inl q, .inr (.inr (.inl (some (34, 0))))]) (m' := m6) (o := none) rfl trivial ?_
      refine ww_call (vs := [.inr (.inr (.inl (some (34, 0)))), .inl q, .inl a]) (r := []) (p := 0 < 1) rfl rfl rfl rfl (show 0 < 1 from by omega) (zs194 (c := c) (by omega) q a hGm6 (by omega)) ?_
      rintro _ _ _ ⟨r8, rfl, rfl, rfl, hr9⟩
      show wW (zK sc) zM227 47 [(0, .inr (.inr (.inl (some (34, 0))))), (1, .inl q), (2, .inl a)] [.inr (.inl r8)] _ _ _
      exact ww_rL rfl rfl ⟨_, rfl, rfl, zB_mono hGm6 (by omega), hFm6, by trivial⟩
    · show wW (zK sc) zM227 37 [(0, .inr (.inr (.inl (some (34, 0))))), (1, .inl q), (2, .inl a)] [] _ _ _
      refine ww_go 2 (pc' := 47) (L' := [(0, .inr (.inr (.inl (some (34, 0))))), (1, .inl q), (2, .inl a)]) (st' := [.inr (.inl (Int64.ofNat 0))]) (m' := m6) (o := none) rfl trivial ?_
      exact ww_rL rfl rfl ⟨_, rfl, rfl, zB_mono hGm6 (by omega), hFm6, by trivial⟩
  · show wW (zK sc) zM227 9 [(0, .inr (.inr (.inl (some (34, 0))))), (1, .inl q), (2, .inl a)] [.inr (.inr (.inl (some (34, 0))))] _ _ _
    refine ww_go 1 (pc' := 10) (L' := [(0, .inr (.inr (.inl (some (34, 0))))), (1, .inl q), (2, .inl a)]) (st' := [.inl a, .inr (.inr (.inl (some (34, 0))))]) (m' := m0) (o := none) rfl trivial ?_
    refine ww_if (t := 29) rfl rfl (by omega) (fun (h10 : a = 0) => ?_) (fun (h10 : ¬ (a = 0)) => ?_)
    · show wW (zK sc) zM227 29 [(0, .inr (.inr (.inl (some (34, 0))))), (1, .inl q), (2, .inl a)] [.inr (.inr (.inl (some (34, 0))))] _ _ _
      refine ww_go 2 (pc' := 31) (L' := [(0, .inr (.inr (.inl (some (34, 0))))), (1, .inl q), (2, .inl a)]) (st' := [.inl 1, .inl 0, .inr (.inr (.inl (some (34, 0))))]) (m' := m0) (o := none) rfl trivial ?_
      refine ww_call (vs := [.inr (.inr (.inl (some (34, 0)))), .inl 0, .inl 1]) (r := []) (p := 0 < 1) rfl rfl rfl rfl (show 0 < 1 from by omega) (zs196 (c := c) (by omega) 0 1 hG (by omega)) ?_
      rintro _ _ m13 ⟨r11, rfl, rfl, hGm13, hEm13, hr12⟩
      have hFm13 : zfr (fun k i j => (k = 34 ∧ j = 0)) m0 m13 := zfr_tr hF hEm13 (fun k i j z => z)
      show wW (zK sc) zM227 34 [(0, .inr (.inr (.inl (some (34, 0))))), (1, .inl q), (2, .inl a)] [.inl r11] _ _ _
      refine ww_if (t := 41) rfl rfl (by omega) (fun (h14 : r11 = 0) => ?_) (fun (h14 : ¬ (r11 = 0)) => ?_)
      · show wW (zK sc) zM227 41 [(0, .inr (.inr (.inl (some (34, 0))))), (1, .inl q), (2, .inl a)] [] _ _ _
        refine ww_go 3 (pc' := 44) (L' := [(0, .inr (.inr (.inl (some (34, 0))))), (1, .inl q), (2, .inl a)]) (st' := [.inl a, .inl q, .inr (.inr (.inl (some (34, 0))))]) (m' := m13) (o := none) rfl trivial ?_
        refine ww_call (vs := [.inr (.inr (.inl (some (34, 0)))), .inl q, .inl a]) (r := []) (p := 0 < 1) rfl rfl rfl rfl (show 0 < 1 from by omega) (zs194 (c := c) (by omega) q a hGm13 (by omega)) ?_
        rintro _ _ _ ⟨r15, rfl, rfl, rfl, hr16⟩
        show wW (zK sc) zM227 47 [(0, .inr (.inr (.inl (some (34, 0))))), (1, .inl q), (2, .inl a)] [.inr (.inl r15)] _ _ _
        exact ww_rL rfl rfl ⟨_, rfl, rfl, zB_mono hGm13 (by omega), hFm13, by trivial⟩
      · show wW (zK sc) zM227 37 [(0, .inr (.inr (.inl (some (34, 0))))), (1, .inl q), (2, .inl a)] [] _ _ _
        refine ww_go 2 (pc' := 47) (L' := [(0, .inr (.inr (.inl (some (34, 0))))), (1, .inl q), (2, .inl a)]) (st' := [.inr (.inl (Int64.ofNat 0))]) (m' := m13) (o := none) rfl trivial ?_
        exact ww_rL rfl rfl ⟨_, rfl, rfl, zB_mono hGm13 (by omega), hFm13, by trivial⟩
    · show wW (zK sc) zM227 13 [(0, .inr (.inr (.inl (some (34, 0))))), (1, .inl q), (2, .inl a)] [.inr (.inr (.inl (some (34, 0))))] _ _ _
      refine ww_go 2 (pc' := 16) (L' := [(0, .inr (.inr (.inl (some (34, 0))))), (1, .inl q), (2, .inl a)]) (st' := [.inl 8, .inl a, .inr (.inr (.inl (some (34, 0))))]) (m' := m0) (o := none) rfl trivial ?_
      refine ww_ic (t := 29) rfl rfl (by omega) (fun (h17 : a = 8) => ?_) (fun (h17 : ¬ (a = 8)) => ?_)
      · show wW (zK sc) zM227 29 [(0, .inr (.inr (.inl (some (34, 0))))), (1, .inl q), (2, .inl a)] [.inr (.inr (.inl (some (34, 0))))] _ _ _
        refine ww_go 2 (pc' := 31) (L' := [(0, .inr (.inr (.inl (some (34, 0))))), (1, .inl q), (2, .inl a)]) (st' := [.inl 1, .inl 0, .inr (.inr (.inl (some (34, 0))))]) (m' := m0) (o := none) rfl trivial ?_
        refine ww_call (vs := [.inr (.inr (.inl (some (34, 0)))), .inl 0, .inl 1]) (r := []) (p := 0 < 1) rfl rfl rfl rfl (show 0 < 1 from by omega) (zs196 (c := c) (by omega) 0 1 hG (by omega)) ?_
        rintro _ _ m20 ⟨r18, rfl, rfl, hGm20, hEm20, hr19⟩
        have hFm20 : zfr (fun k i j => (k = 34 ∧ j = 0)) m0 m20 := zfr_tr hF hEm20 (fun k i j z => z)
        show wW (zK sc) zM227 34 [(0, .inr (.inr (.inl (some (34, 0))))), (1, .inl q), (2, .inl a)] [.inl r18] _ _ _
        refine ww_if (t := 41) rfl rfl (by omega) (fun (h21 : r18 = 0) => ?_) (fun (h21 : ¬ (r18 = 0)) => ?_)
        · show wW (zK sc) zM227 41 [(0, .inr (.inr (.inl (some (34, 0))))), (1, .inl q), (2, .inl a)] [] _ _ _
          refine ww_go 3 (pc' := 44) (L' := [(0, .inr (.inr (.inl (some (34, 0))))), (1, .inl q), (2, .inl a)]) (st' := [.inl a, .inl q, .inr (.inr (.inl (some (34, 0))))]) (m' := m20) (o := none) rfl trivial ?_
          refine ww_call (vs := [.inr (.inr (.inl (some (34, 0)))), .inl q, .inl a]) (r := []) (p := 0 < 1) rfl rfl rfl rfl (show 0 < 1 from by omega) (zs194 (c := c) (by omega) q a hGm20 (by omega)) ?_
          rintro _ _ _ ⟨r22, rfl, rfl, rfl, hr23⟩
          show wW (zK sc) zM227 47 [(0, .inr (.inr (.inl (some (34, 0))))), (1, .inl q), (2, .inl a)] [.inr (.inl r22)] _ _ _
          exact ww_rL rfl rfl ⟨_, rfl, rfl, zB_mono hGm20 (by omega), hFm20, by trivial⟩
        · show wW (zK sc) zM227 37 [(0, .inr (.inr (.inl (some (34, 0))))), (1, .inl q), (2, .inl a)] [] _ _ _
          refine ww_go 2 (pc' := 47) (L' := [(0, .inr (.inr (.inl (some (34, 0))))), (1, .inl q), (2, .inl a)]) (st' := [.inr (.inl (Int64.ofNat 0))]) (m' := m20) (o := none) rfl trivial ?_
          exact ww_rL rfl rfl ⟨_, rfl, rfl, zB_mono hGm20 (by omega), hFm20, by trivial⟩
      · show wW (zK sc) zM227 19 [(0, .inr (.inr (.inl (some (34, 0))))), (1, .inl q), (2, .inl a)] [.inr (.inr (.inl (some (34, 0))))] _ _ _
        refine ww_go 2 (pc' := 22) (L' := [(0, .inr (.inr (.inl (some (34, 0))))), (1, .inl q), (2, .inl a)]) (st' := [.inl 16, .inl a, .inr (.inr (.inl (some (34, 0))))]) (m' := m0) (o := none) rfl trivial ?_
        refine ww_ic (t := 29) rfl rfl (by omega) (fun (h24 : a = 16) => ?_) (fun (h24 : ¬ (a = 16)) => ?_)
        · show wW (zK sc) zM227 29 [(0, .inr (.inr (.inl (some (34, 0))))), (1, .inl q), (2, .inl a)] [.inr (.inr (.inl (some (34, 0))))] _ _ _
          refine ww_go 2 (pc' := 31) (L' := [(0, .inr (.inr (.inl (some (34, 0))))), (1, .inl q), (2, .inl a)]) (st' := [.inl 1, .inl 0, .inr (.inr (.inl (some (34, 0))))]) (m' := m0) (o := none) rfl trivial ?_
          refine ww_call (vs := [.inr (.inr (.inl (some (34, 0)))), .inl 0, .inl 1]) (r := []) (p := 0 < 1) rfl rfl rfl rfl (show 0 < 1 from by omega) (zs196 (c := c) (by omega) 0 1 hG (by omega)) ?_
          rintro _ _ m27 ⟨r25, rfl, rfl, hGm27, hEm27, hr26⟩
          have hFm27 : zfr (fun k i j => (k = 34 ∧ j = 0)) m0 m27 := zfr_tr hF hEm27 (fun k i j z => z)
          show wW (zK sc) zM227 34 [(0, .inr (.inr (.inl (some (34, 0))))), (1, .inl q), (2, .inl a)] [.inl r25] _ _ _
          refine ww_if (t := 41) rfl rfl (by omega) (fun (h28 : r25 = 0) => ?_) (fun (h28 : ¬ (r25 = 0)) => ?_)
          · show wW (zK sc) zM227 41 [(0, .inr (.inr (.inl (some (34, 0))))), (1, .inl q), (2, .inl a)] [] _ _ _
            refine ww_go 3 (pc' := 44) (L' := [(0, .inr (.inr (.inl (some (34, 0))))), (1, .inl q), (2, .inl a)]) (st' := [.inl a, .inl q, .inr (.inr (.inl (some (34, 0))))]) (m' := m27) (o := none) rfl trivial ?_
            refine ww_call (vs := [.inr (.inr (.inl (some (34, 0)))), .inl q, .inl a]) (r := []) (p := 0 < 1) rfl rfl rfl rfl (show 0 < 1 from by omega) (zs194 (c := c) (by omega) q a hGm27 (by omega)) ?_
            rintro _ _ _ ⟨r29, rfl, rfl, rfl, hr30⟩
            show wW (zK sc) zM227 47 [(0, .inr (.inr (.inl (some (34, 0))))), (1, .inl q), (2, .inl a)] [.inr (.inl r29)] _ _ _
            exact ww_rL rfl rfl ⟨_, rfl, rfl, zB_mono hGm27 (by omega), hFm27, by trivial⟩
          · show wW (zK sc) zM227 37 [(0, .inr (.inr (.inl (some (34, 0))))), (1, .inl q), (2, .inl a)] [] _ _ _
            refine ww_go 2 (pc' := 47) (L' := [(0, .inr (.inr (.inl (some (34, 0))))), (1, .inl q), (2, .inl a)]) (st' := [.inr (.inl (Int64.ofNat 0))]) (m' := m27) (o := none) rfl trivial ?_
            exact ww_rL rfl rfl ⟨_, rfl, rfl, zB_mono hGm27 (by omega), hFm27, by trivial⟩
        · show wW (zK sc) zM227 25 [(0, .inr (.inr (.inl (some (34, 0))))), (1, .inl q), (2, .inl a)] [.inr (.inr (.inl (some (34, 0))))] _ _ _
          refine ww_go 3 (pc' := 31) (L' := [(0, .inr (.inr (.inl (some (34, 0))))), (1, .inl q), (2, .inl a)]) (st' := [.inl 1, .inl 1, .inr (.inr (.inl (some (34, 0))))]) (m' := m0) (o := none) rfl trivial ?_
          refine ww_call (vs := [.inr (.inr (.inl (some (34, 0)))), .inl 1, .inl 1]) (r := []) (p := 0 < 1) rfl rfl rfl rfl (show 0 < 1 from by omega) (zs196 (c := c) (by omega) 1 1 hG (by omega)) ?_
          rintro _ _ m33 ⟨r31, rfl, rfl, hGm33, hEm33, hr32⟩
          have hFm33 : zfr (fun k i j => (k = 34 ∧ j = 0)) m0 m33 := zfr_tr hF hEm33 (fun k i j z => z)
          show wW (zK sc) zM227 34 [(0, .inr (.inr (.inl (some (34, 0))))), (1, .inl q), (2, .inl a)] [.inl r31] _ _ _
          refine ww_if (t := 41) rfl rfl (by omega) (fun (h34 : r31 = 0) => ?_) (fun (h34 : ¬ (r31 = 0)) => ?_)
          · show wW (zK sc) zM227 41 [(0, .inr (.inr (.inl (some (34, 0))))), (1, .inl q), (2, .inl a)] [] _ _ _
            refine ww_go 3 (pc' := 44) (L' := [(0, .inr (.inr (.inl (some (34, 0))))), (1, .inl q), (2, .inl a)]) (st' := [.inl a, .inl q, .inr (.inr (.inl (some (34, 0))))]) (m' := m33) (o := none) rfl trivial ?_
            refine ww_call (vs := [.inr (.inr (.inl (some (34, 0)))), .inl q, .inl a]) (r := []) (p := 0 < 1) rfl rfl rfl rfl (show 0 < 1 from by omega) (zs194 (c := c) (by omega) q a hGm33 (by omega)) ?_
            rintro _ _ _ ⟨r35, rfl, rfl, rfl, hr36⟩
            show wW (zK sc) zM227 47 [(0, .inr (.inr (.inl (some (34, 0))))), (1, .inl q), (2, .inl a)] [.inr (.inl r35)] _ _ _
            exact ww_rL rfl rfl ⟨_, rfl, rfl, zB_mono hGm33 (by omega), hFm33, by trivial⟩
          · show wW (zK sc) zM227 37 [(0, .inr (.inr (.inl (some (34, 0))))), (1, .inl q), (2, .inl a)] [] _ _ _
            refine ww_go 2 (pc' := 47) (L' := [(0, .inr (.inr (.inl (some (34, 0))))), (1, .inl q), (2, .inl a)]) (st' := [.inr (.inl (Int64.ofNat 0))]) (m' := m33) (o := none) rfl trivial ?_
            exact ww_rL rfl rfl ⟨_, rfl, rfl, zB_mono hGm33 (by omega), hFm33, by trivial⟩
set_option maxRecDepth 8000 in
/-- Mo.alter -/
theorem zs179 {sc : xSc} {n : Nat × Nat} {m0 : wm} {c : Int} (hc : 0 ≤ c ∧ c ≤ 1000000) (q : Int) (a : Int) (y : Int) (hG : zB c m0) (h0 : -2147483648 ≤ q ∧ q ≤ 2147483647 ∧ -2147483648 ≤ a ∧ a ≤ 2147483647 ∧ -2147483648 ≤ y ∧ y ≤ 2147483647) : wX (zK sc) 179 [.inr (.inr (.inl (some (34, 0)))), .inl q, .inl a, .inl y] n m0 (wr (fun vv n1 m1 => vv = none ∧ n = n1 ∧ zB c m1 ∧ zfr (fun k i j => (k = 34 ∧ j = 0) ∨ (k = 47)) m0 m1 ∧ ((m1.1 34 0 0 = 1 ∧ ¬ (0 ≤ q ∧ q ≤ 31 ∧ m0.1 48 0 q.toNat = 1 ∧ 0 ≤ a ∧ a ≤ 23)) ∨ (m1.1 34 0 0 = 0 ∧ 0 ≤ q ∧ q ≤ 31 ∧ m0.1 48 0 q.toNat = 1 ∧ 0 ≤ a ∧ a ≤ 23)))) := by
  refine wX_of (N := zM179) rfl (Nat.le_of_ble_eq_true rfl) ?_
  show wW (zK sc) zM179 0 [(0, .inr (.inr (.inl (some (34, 0))))), (1, .inl q), (2, .inl a), (3, .inl y)] [] n m0 _
  have hF : zfr (fun k i j => (k = 34 ∧ j = 0) ∨ (k = 47)) m0 m0 := zfr_rf
  have bf9 : 0 ≤ m0.1 48 0 q.toNat ∧ m0.1 48 0 q.toNat ≤ 1 := hG.1 48 _ rfl _ _
  refine ww_go 3 (pc' := 3) (L' := [(0, .inr (.inr (.inl (some (34, 0))))), (1, .inl q), (2, .inl a), (3, .inl y)]) (st' := [.inl q, .inr (.inr (.inl (some (34, 0)))), .inr (.inr (.inl (some (34, 0))))]) (m' := m0) (o := none) rfl trivial ?_
  refine ww_call (vs := [.inr (.inr (.inl (some (34, 0)))), .inl q]) (r := [.inr (.inr (.inl (some (34, 0))))]) (p := 0 < 1) rfl rfl rfl rfl (show 0 < 1 from by omega) (zs200 (c := c) (by omega) q hG (by omega)) ?_
  rintro _ _ _ ⟨r1, rfl, rfl, rfl, hr2⟩
  show wW (zK sc) zM179 6 [(0, .inr (.inr (.inl (some (34, 0))))), (1, .inl q), (2, .inl a), (3, .inl y)] [.inl r1, .inr (.inr (.inl (some (34, 0))))] _ _ _
  refine ww_if (t := 19) rfl rfl (by omega) (fun (h3 : r1 = 0) => ?_) (fun (h3 : ¬ (r1 = 0)) => ?_)
  · show wW (zK sc) zM179 19 [(0, .inr (.inr (.inl (some (34, 0))))), (1, .inl q), (2, .inl a), (3, .inl y)] [.inr (.inr (.inl (some (34, 0))))] _ _ _
    refine ww_go 3 (pc' := 25) (L' := [(0, .inr (.inr (.inl (some (34, 0))))), (1, .inl q), (2, .inl a), (3, .inl y)]) (st' := [.inl 1, .inl 1, .inr (.inr (.inl (some (34, 0))))]) (m' := m0) (o := none) rfl trivial ?_
    refine ww_call (vs := [.inr (.inr (.inl (some (34, 0)))), .inl 1, .inl 1]) (r := []) (p := 0 < 1) rfl rfl rfl rfl (show 0 < 1 from by omega) (zs196 (c := c) (by omega) 1 1 hG (by omega)) ?_
    rintro _ _ m6 ⟨r4, rfl, rfl, hGm6, hEm6, hr5⟩
    have hFm6 : zfr (fun k i j => (k = 34 ∧ j = 0) ∨ (k = 47)) m0 m6 := zfr_tr hF hEm6 (fun k i j z => Or.inl z)
    show wW (zK sc) zM179 28 [(0, .inr (.inr (.inl (some (34, 0))))), (1, .inl q), (2, .inl a), (3, .inl y)] [.inl r4] _ _ _
    refine ww_if (t := 50) rfl rfl (by omega) (fun (h7 : r4 ≠ 0) => ?_) (fun (h7 : ¬ (r4 ≠ 0)) => ?_)
    · show wW (zK sc) zM179 50 [(0, .inr (.inr (.inl (some (34, 0))))), (1, .inl q), (2, .inl a), (3, .inl y)] [] _ _ _
      exact ww_rV rfl rfl ⟨rfl, rfl, zB_mono hGm6 (by omega), hFm6, by omega⟩
    · show wW (zK sc) zM179 31 [(0, .inr (.inr (.inl (some (34, 0))))), (1, .inl q), (2, .inl a), (3, .inl y)] [] _ _ _
      have b8 : 0 ≤ m6.1 47 0 (((24 * q) + a).toNat) ∧ m6.1 47 0 (((24 * q) + a).toNat) ≤ 255 := hGm6.1 47 _ rfl _ _
      have t9 := wand_rg y 255
      have t10 := wand_m255 y
      have t11 := wxor_rg (m6.1 47 0 (((24 * q) + a).toNat)) (wand y 255)
      have t12 : (0 ≤ m6.1 47 0 (((24 * q) + a).toNat) ∧ m6.1 47 0 (((24 * q) + a).toNat) ≤ 255 ∧ 0 ≤ wand y 255 ∧ wand y 255 ≤ 255) → (0 ≤ wxor (m6.1 47 0 (((24 * q) + a).toNat)) (wand y 255) ∧ wxor (m6.1 47 0 (((24 * q) + a).toNat)) (wand y 255) ≤ 255) := fun z => wxor_255 ⟨z.1, z.2.1⟩ z.2.2
      have t13 : (0 ≤ m6.1 47 0 (((24 * q) + a).toNat) ∧ m6.1 47 0 (((24 * q) + a).toNat) ≤ 65535 ∧ 0 ≤ wand y 255 ∧ wand y 255 ≤ 65535) → (0 ≤ wxor (m6.1 47 0 (((24 * q) + a).toNat)) (wand y 255) ∧ wxor (m6.1 47 0 (((24 * q) + a).toNat)) (wand y 255) ≤ 65535) := fun z => wxor_65535 ⟨z.1, z.2.1⟩ z.2.2
      have t14 : (0 ≤ m6.1 47 0 (((24 * q) + a).toNat) ∧ m6.1 47 0 (((24 * q) + a).toNat) ≤ 2147483647 ∧ 0 ≤ wand y 255 ∧ wand y 255 ≤ 2147483647) → (0 ≤ wxor (m6.1 47 0 (((24 * q) + a).toNat)) (wand y 255) ∧ wxor (m6.1 47 0 (((24 * q) + a).toNat)) (wand y 255) ≤ 2147483647) := fun z => wxor_2147483647 ⟨z.1, z.2.1⟩ z.2.2
      refine ww_go 14 (pc' := 50) (L' := [(0, .inr (.inr (.inl (some (34, 0))))), (1, .inl q), (2, .inl a), (3, .inl y)]) (st' := []) (m' := wuI m6 47 0 (((24 * q) + a).toNat) (wxor (m6.1 47 0 (((24 * q) + a).toNat)) (wand y 255))) (o := some ((0 < 1) ∧ (0 < 1 ∧ 0 ≤ (24 * q) + a ∧ (24 * q) + a < ((768 : Nat) : Int)) ∧ (0 < 1 ∧ 0 ≤ (24 * q) + a ∧ (24 * q) + a < ((768 : Nat) : Int)))) rfl (show (0 < 1) ∧ (0 < 1 ∧ 0 ≤ (24 * q) + a ∧ (24 * q) + a < ((768 : Nat) : Int)) ∧ (0 < 1 ∧ 0 ≤ (24 * q) + a ∧ (24 * q) + a < ((768 : Nat) : Int)) from by omega) ?_
      obtain ⟨m15, hm15⟩ : ∃ zq9 : wm, zq9 = wuI m6 47 0 (((24 * q) + a).toNat) (wxor (m6.1 47 0 (((24 * q) + a).toNat)) (wand y 255)) := ⟨_, rfl⟩
      rw [← hm15]
      have hGm15 : zB c m15 := by rw [hm15]; exact zB_wI rfl (show 0 ≤ wxor (m6.1 47 0 (((24 * q) + a).toNat)) (wand y 255) ∧ wxor (m6.1 47 0 (((24 * q) + a).toNat)) (wand y 255) ≤ 255 from by omega) hGm6
      have hFm15 : zfr (fun k i j => (k = 34 ∧ j = 0) ∨ (k = 47)) m0 m15 := by rw [hm15]; exact zfr_wI hFm6 (show (47 = 34 ∧ (((24 * q) + a).toNat) = 0) ∨ (47 = 47) from Or.inr (rfl))
      have s16 : m15.1 47 0 (((24 * q) + a).toNat) = wxor (m6.1 47 0 (((24 * q) + a).toNat)) (wand y 255) := by rw [hm15]; exact wuI_self
      have w17 : m15.1 34 0 0 = m6.1 34 0 0 := by rw [hm15]; rfl
      exact ww_rV rfl rfl ⟨rfl, rfl, zB_mono hGm15 (by omega), hFm15, by omega⟩
  · show wW (zK sc) zM179 9 [(0, .inr (.inr (.inl (some (34, 0))))), (1, .inl q), (2, .inl a), (3, .inl y)] [.inr (.inr (.inl (some (34, 0))))] _ _ _
    refine ww_go 3 (pc' := 13) (L' := [(0, .inr (.inr (.inl (some (34, 0))))), (1, .inl q), (2, .inl a), (3, .inl y)]) (st' := [.inl 23, .inl 0, .inl a, .inr (.inr (.inl (some (34, 0))))]) (m' := m0) (o := none) rfl trivial ?_
    refine ww_call (vs := [.inl a, .inl 0, .inl 23]) (r := [.inr (.inr (.inl (some (34, 0))))]) (p := True) rfl rfl rfl rfl trivial (zs207 a 0 23 (by omega)) ?_
    rintro _ _ _ ⟨r18, rfl, rfl, rfl, hr19⟩
    show wW (zK sc) zM179 16 [(0, .inr (.inr (.inl (some (34, 0))))), (1, .inl q), (2, .inl a), (3, .inl y)] [.inl r18, .inr (.inr (.inl (some (34, 0))))] _ _ _
    refine ww_if (t := 23) rfl rfl (by omega) (fun (h20 : r18 ≠ 0) => ?_) (fun (h20 : ¬ (r18 ≠ 0)) => ?_)
    · show wW (zK sc) zM179 23 [(0, .inr (.inr (.inl (some (34, 0))))), (1, .inl q), (2, .inl a), (3, .inl y)] [.inr (.inr (.inl (some (34, 0))))] _ _ _
      refine ww_go 2 (pc' := 25) (L' := [(0, .inr (.inr (.inl (some (34, 0))))), (1, .inl q), (2, .inl a), (3, .inl y)]) (st' := [.inl 1, .inl 0, .inr (.inr (.inl (some (34, 0))))]) (m' := m0) (o := none) rfl trivial ?_
      refine ww_call (vs := [.inr (.inr (.inl (some (34, 0)))), .inl 0, .inl 1]) (r := []) (p := 0 < 1) rfl rfl rfl rfl (show 0 < 1 from by omega) (zs196 (c := c) (by omega) 0 1 hG (by omega)) ?_
      rintro _ _ m23 ⟨r21, rfl, rfl, hGm23, hEm23, hr22⟩
      have hFm23 : zfr (fun k i j => (k = 34 ∧ j = 0) ∨ (k = 47)) m0 m23 := zfr_tr hF hEm23 (fun k i j z => Or.inl z)
      show wW (zK sc) zM179 28 [(0, .inr (.inr (.inl (some (34, 0))))), (1, .inl q), (2, .inl a), (3, .inl y)] [.inl r21] _ _ _
      refine ww_if (t := 50) rfl rfl (by omega) (fun (h24 : r21 ≠ 0) => ?_) (fun (h24 : ¬ (r21 ≠ 0)) => ?_)
      · show wW (zK sc) zM179 50 [(0, .inr (.inr (.inl (some (34, 0))))), (1, .inl q), (2, .inl a), (3, .inl y)] [] _ _ _
        exact ww_rV rfl rfl ⟨rfl, rfl, zB_mono hGm23 (by omega), hFm23, by omega⟩
      · show wW (zK sc) zM179 31 [(0, .inr (.inr (.inl (some (34, 0))))), (1, .inl q), (2, .inl a), (3, .inl y)] [] _ _ _
        have b25 : 0 ≤ m23.1 47 0 (((24 * q) + a).toNat) ∧ m23.1 47 0 (((24 * q) + a).toNat) ≤ 255 := hGm23.1 47 _ rfl _ _
        have t26 := wand_rg y 255
        have t27 := wand_m255 y
        have t28 := wxor_rg (m23.1 47 0 (((24 * q) + a).toNat)) (wand y 255)
        have t29 : (0 ≤ m23.1 47 0 (((24 * q) + a).toNat) ∧ m23.1 47 0 (((24 * q) + a).toNat) ≤ 255 ∧ 0 ≤ wand y 255 ∧ wand y 255 ≤ 255) → (0 ≤ wxor (m23.1 47 0 (((24 * q) + a).toNat)) (wand y 255) ∧ wxor (m23.1 47 0 (((24 * q) + a).toNat)) (wand y 255) ≤ 255) := fun z => wxor_255 ⟨z.1, z.2.1⟩ z.2.2
        have t30 : (0 ≤ m23.1 47 0 (((24 * q) + a).toNat) ∧ m23.1 47 0 (((24 * q) + a).toNat) ≤ 65535 ∧ 0 ≤ wand y 255 ∧ wand y 255 ≤ 65535) → (0 ≤ wxor (m23.1 47 0 (((24 * q) + a).toNat)) (wand y 255) ∧ wxor (m23.1 47 0 (((24 * q) + a).toNat)) (wand y 255) ≤ 65535) := fun z => wxor_65535 ⟨z.1, z.2.1⟩ z.2.2
        have t31 : (0 ≤ m23.1 47 0 (((24 * q) + a).toNat) ∧ m23.1 47 0 (((24 * q) + a).toNat) ≤ 2147483647 ∧ 0 ≤ wand y 255 ∧ wand y 255 ≤ 2147483647) → (0 ≤ wxor (m23.1 47 0 (((24 * q) + a).toNat)) (wand y 255) ∧ wxor (m23.1 47 0 (((24 * q) + a).toNat)) (wand y 255) ≤ 2147483647) := fun z => wxor_2147483647 ⟨z.1, z.2.1⟩ z.2.2
        refine ww_go 14 (pc' := 50) (L' := [(0, .inr (.inr (.inl (some (34, 0))))), (1, .inl q), (2, .inl a), (3, .inl y)]) (st' := []) (m' := wuI m23 47 0 (((24 * q) + a).toNat) (wxor (m23.1 47 0 (((24 * q) + a).toNat)) (wand y 255))) (o := some ((0 < 1) ∧ (0 < 1 ∧ 0 ≤ (24 * q) + a ∧ (24 * q) + a < ((768 : Nat) : Int)) ∧ (0 < 1 ∧ 0 ≤ (24 * q) + a ∧ (24 * q) + a < ((768 : Nat) : Int)))) rfl (show (0 < 1) ∧ (0 < 1 ∧ 0 ≤ (24 * q) + a ∧ (24 * q) + a < ((768 : Nat) : Int)) ∧ (0 < 1 ∧ 0 ≤ (24 * q) + a ∧ (24 * q) + a < ((768 : Nat) : Int)) from by omega) ?_
        obtain ⟨m32, hm32⟩ : ∃ zq9 : wm, zq9 = wuI m23 47 0 (((24 * q) + a).toNat) (wxor (m23.1 47 0 (((24 * q) + a).toNat)) (wand y 255)) := ⟨_, rfl⟩
        rw [← hm32]
        have hGm32 : zB c m32 := by rw [hm32]; exact zB_wI rfl (show 0 ≤ wxor (m23.1 47 0 (((24 * q) + a).toNat)) (wand y 255) ∧ wxor (m23.1 47 0 (((24 * q) + a).toNat)) (wand y 255) ≤ 255 from by omega) hGm23
        have hFm32 : zfr (fun k i j => (k = 34 ∧ j = 0) ∨ (k = 47)) m0 m32 := by rw [hm32]; exact zfr_wI hFm23 (show (47 = 34 ∧ (((24 * q) + a).toNat) = 0) ∨ (47 = 47) from Or.inr (rfl))
        have s33 : m32.1 47 0 (((24 * q) + a).toNat) = wxor (m23.1 47 0 (((24 * q) + a).toNat)) (wand y 255) := by rw [hm32]; exact wuI_self
        have w34 : m32.1 34 0 0 = m23.1 34 0 0 := by rw [hm32]; rfl
        exact ww_rV rfl rfl ⟨rfl, rfl, zB_mono hGm32 (by omega), hFm32, by omega⟩
    · show wW (zK sc) zM179 19 [(0, .inr (.inr (.inl (some (34, 0))))), (1, .inl q), (2, .inl a), (3, .inl y)] [.inr (.inr (.inl (some (34, 0))))] _ _ _
      refine ww_go 3 (pc' := 25) (L' := [(0, .inr (.inr (.inl (some (34, 0))))), (1, .inl q), (2, .inl a), (3, .inl y)]) (st' := [.inl 1, .inl 1, .inr (.inr (.inl (some (34, 0))))]) (m' := m0) (o := none) rfl trivial ?_
      refine ww_call (vs := [.inr (.inr (.inl (some (34, 0)))), .inl 1, .inl 1]) (r := []) (p := 0 < 1) rfl rfl rfl rfl (show 0 < 1 from by omega) (zs196 (c := c) (by omega) 1 1 hG (by omega)) ?_
      rintro _ _ m37 ⟨r35, rfl, rfl, hGm37, hEm37, hr36⟩
      have hFm37 : zfr (fun k i j => (k = 34 ∧ j = 0) ∨ (k = 47)) m0 m37 := zfr_tr hF hEm37 (fun k i j z => Or.inl z)
      show wW (zK sc) zM179 28 [(0, .inr (.inr (.inl (some (34, 0))))), (1, .inl q), (2, .inl a), (3, .inl y)] [.inl r35] _ _ _
      refine ww_if (t := 50) rfl rfl (by omega) (fun (h38 : r35 ≠ 0) => ?_) (fun (h38 : ¬ (r35 ≠ 0)) => ?_)
      · show wW (zK sc) zM179 50 [(0, .inr (.inr (.inl (some (34, 0))))), (1, .inl q), (2, .inl a), (3, .inl y)] [] _ _ _
        exact ww_rV rfl rfl ⟨rfl, rfl, zB_mono hGm37 (by omega), hFm37, by omega⟩
      · show wW (zK sc) zM179 31 [(0, .inr (.inr (.inl (some (34, 0))))), (1, .inl q), (2, .inl a), (3, .inl y)] [] _ _ _
        have b39 : 0 ≤ m37.1 47 0 (((24 * q) + a).toNat) ∧ m37.1 47 0 (((24 * q) + a).toNat) ≤ 255 := hGm37.1 47 _ rfl _ _
        have t40 := wand_rg y 255
        have t41 := wand_m255 y
        have t42 := wxor_rg (m37.1 47 0 (((24 * q) + a).toNat)) (wand y 255)
        have t43 : (0 ≤ m37.1 47 0 (((24 * q) + a).toNat) ∧ m37.1 47 0 (((24 * q) + a).toNat) ≤ 255 ∧ 0 ≤ wand y 255 ∧ wand y 255 ≤ 255) → (0 ≤ wxor (m37.1 47 0 (((24 * q) + a).toNat)) (wand y 255) ∧ wxor (m37.1 47 0 (((24 * q) + a).toNat)) (wand y 255) ≤ 255) := fun z => wxor_255 ⟨z.1, z.2.1⟩ z.2.2
        have t44 : (0 ≤ m37.1 47 0 (((24 * q) + a).toNat) ∧ m37.1 47 0 (((24 * q) + a).toNat) ≤ 65535 ∧ 0 ≤ wand y 255 ∧ wand y 255 ≤ 65535) → (0 ≤ wxor (m37.1 47 0 (((24 * q) + a).toNat)) (wand y 255) ∧ wxor (m37.1 47 0 (((24 * q) + a).toNat)) (wand y 255) ≤ 65535) := fun z => wxor_65535 ⟨z.1, z.2.1⟩ z.2.2
        have t45 : (0 ≤ m37.1 47 0 (((24 * q) + a).toNat) ∧ m37.1 47 0 (((24 * q) + a).toNat) ≤ 2147483647 ∧ 0 ≤ wand y 255 ∧ wand y 255 ≤ 2147483647) → (0 ≤ wxor (m37.1 47 0 (((24 * q) + a).toNat)) (wand y 255) ∧ wxor (m37.1 47 0 (((24 * q) + a).toNat)) (wand y 255) ≤ 2147483647) := fun z => wxor_2147483647 ⟨z.1, z.2.1⟩ z.2.2
        refine ww_go 14 (pc' := 50) (L' := [(0, .inr (.inr (.inl (some (34, 0))))), (1, .inl q), (2, .inl a), (3, .inl y)]) (st' := []) (m' := wuI m37 47 0 (((24 * q) + a).toNat) (wxor (m37.1 47 0 (((24 * q) + a).toNat)) (wand y 255))) (o := some ((0 < 1) ∧ (0 < 1 ∧ 0 ≤ (24 * q) + a ∧ (24 * q) + a < ((768 : Nat) : Int)) ∧ (0 < 1 ∧ 0 ≤ (24 * q) + a ∧ (24 * q) + a < ((768 : Nat) : Int)))) rfl (show (0 < 1) ∧ (0 < 1 ∧ 0 ≤ (24 * q) + a ∧ (24 * q) + a < ((768 : Nat) : Int)) ∧ (0 < 1 ∧ 0 ≤ (24 * q) + a ∧ (24 * q) + a < ((768 : Nat) : Int)) from by omega) ?_
        obtain ⟨m46, hm46⟩ : ∃ zq9 : wm, zq9 = wuI m37 47 0 (((24 * q) + a).toNat) (wxor (m37.1 47 0 (((24 * q) + a).toNat)) (wand y 255)) := ⟨_, rfl⟩
        rw [← hm46]
        have hGm46 : zB c m46 := by rw [hm46]; exact zB_wI rfl (show 0 ≤ wxor (m37.1 47 0 (((24 * q) + a).toNat)) (wand y 255) ∧ wxor (m37.1 47 0 (((24 * q) + a).toNat)) (wand y 255) ≤ 255 from by omega) hGm37
        have hFm46 : zfr (fun k i j => (k = 34 ∧ j = 0) ∨ (k = 47)) m0 m46 := by rw [hm46]; exact zfr_wI hFm37 (show (47 = 34 ∧ (((24 * q) + a).toNat) = 0) ∨ (47 = 47) from Or.inr (rfl))
        have s47 : m46.1 47 0 (((24 * q) + a).toNat) = wxor (m37.1 47 0 (((24 * q) + a).toNat)) (wand y 255) := by rw [hm46]; exact wuI_self
        have w48 : m46.1 34 0 0 = m37.1 34 0 0 := by rw [hm46]; rfl
        exact ww_rV rfl rfl ⟨rfl, rfl, zB_mono hGm46 (by omega), hFm46, by omega⟩
set_option maxRecDepth 8000 in
/-- Mo.restartSender -/
theorem zs238 {sc : xSc} {n : Nat × Nat} {m0 : wm} {c : Int} (hc : 0 ≤ c ∧ c ≤ 1000000)  (hG : zB c m0) : wX (zK sc) 238 [.inr (.inr (.inl (some (34, 0))))] n m0 (wr (fun vv n1 m1 => ∃ r : Int, vv = some (.inl r) ∧ n = n1 ∧ zB c m1 ∧ zfr (fun k i j => (k = 34 ∧ j = 0) ∨ (k = 34 ∧ j = 15) ∨ (k = 34 ∧ j = 14) ∨ (k = 46)) m0 m1 ∧ ((m1.1 34 0 0 = 1 ∧ m0.1 34 0 14 = 255 ∧ m1.1 34 0 14 = 255) ∨ (m1.1 34 0 0 = 0 ∧ m0.1 34 0 14 < 255 ∧ m1.1 34 0 14 = m0.1 34 0 14 + 1 ∧ r = m0.1 34 0 14 + 1)))) := by
  refine wX_of (N := zM238) rfl (Nat.le_of_ble_eq_true rfl) ?_
  show wW (zK sc) zM238 0 [(0, .inr (.inr (.inl (some (34, 0)))))] [] n m0 _
  have hF : zfr (fun k i j => (k = 34 ∧ j = 0) ∨ (k = 34 ∧ j = 15) ∨ (k = 34 ∧ j = 14) ∨ (k = 46)) m0 m0 := zfr_rf
  have q1 : 1 ≤ m0.1 34 0 14 ∧ m0.1 34 0 14 ≤ 255 := hG.1 34 _ rfl _ _
  have b1 : 1 ≤ m0.1 34 0 14 ∧ m0.1 34 0 14 ≤ 255 := hG.1 34 _ rfl _ _
  refine ww_go 4 (pc' := 8) (L' := [(0, .inr (.inr (.inl (some (34, 0)))))]) (st' := [.inl 255, .inl (m0.1 34 0 14), .inr (.inr (.inl (some (34, 0))))]) (m' := m0) (o := some ((0 < 1))) rfl (show (0 < 1) from by omega) ?_
  refine ww_ic (t := 15) rfl rfl (by omega) (fun (h2 : m0.1 34 0 14 ≠ 255) => ?_) (fun (h2 : ¬ (m0.1 34 0 14 ≠ 255)) => ?_)
  · show wW (zK sc) zM238 15 [(0, .inr (.inr (.inl (some (34, 0)))))] [.inr (.inr (.inl (some (34, 0))))] _ _ _
    refine ww_go 2 (pc' := 17) (L' := [(0, .inr (.inr (.inl (some (34, 0)))))]) (st' := [.inl 1, .inl 0, .inr (.inr (.inl (some (34, 0))))]) (m' := m0) (o := none) rfl trivial ?_
    refine ww_call (vs := [.inr (.inr (.inl (some (34, 0)))), .inl 0, .inl 1]) (r := []) (p := 0 < 1) rfl rfl rfl rfl (show 0 < 1 from by omega) (zs196 (c := c) (by omega) 0 1 hG (by omega)) ?_
    rintro _ _ m5 ⟨r3, rfl, rfl, hGm5, hEm5, hr4⟩
    have hFm5 : zfr (fun k i j => (k = 34 ∧ j = 0) ∨ (k = 34 ∧ j = 15) ∨ (k = 34 ∧ j = 14) ∨ (k = 46)) m0 m5 := zfr_tr hF hEm5 (fun k i j z => Or.inl z)
    have w6 : m5.1 34 0 14 = m0.1 34 0 14 := (hEm5 34 0 14 (show ¬ ((34 = 34 ∧ 14 = 0)) from by omega)).1
    show wW (zK sc) zM238 20 [(0, .inr (.inr (.inl (some (34, 0)))))] [.inl r3] _ _ _
    refine ww_if (t := 25) rfl rfl (by omega) (fun (h7 : r3 = 0) => ?_) (fun (h7 : ¬ (r3 = 0)) => ?_)
    · show wW (zK sc) zM238 25 [(0, .inr (.inr (.inl (some (34, 0)))))] [] _ _ _
      have b8 : 1 ≤ m5.1 34 0 14 ∧ m5.1 34 0 14 ≤ 255 := hGm5.1 34 _ rfl _ _
      refine ww_go 6 (pc' := 35) (L' := [(0, .inr (.inr (.inl (some (34, 0)))))]) (st' := []) (m' := wuI m5 34 0 14 ((m5.1 34 0 14) + 1)) (o := some ((0 < 1) ∧ (0 < 1))) rfl (show (0 < 1) ∧ (0 < 1) from by omega) ?_
      obtain ⟨m9, hm9⟩ : ∃ zq9 : wm, zq9 = wuI m5 34 0 14 ((m5.1 34 0 14) + 1) := ⟨_, rfl⟩
      rw [← hm9]
      have hGm9 : zB c m9 := by rw [hm9]; exact zB_wI rfl (show 1 ≤ (m5.1 34 0 14) + 1 ∧ (m5.1 34 0 14) + 1 ≤ 255 from by omega) hGm5
      have hFm9 : zfr (fun k i j => (k = 34 ∧ j = 0) ∨ (k = 34 ∧ j = 15) ∨ (k = 34 ∧ j = 14) ∨ (k = 46)) m0 m9 := by rw [hm9]; exact zfr_wI hFm5 (show (34 = 34 ∧ 14 = 0) ∨ (34 = 34 ∧ 14 = 15) ∨ (34 = 34 ∧ 14 = 14) ∨ (34 = 46) from Or.inr (Or.inr (Or.inl (⟨rfl, rfl⟩))))
      have s10 : m9.1 34 0 14 = (m5.1 34 0 14) + 1 := by rw [hm9]; exact wuI_self
      have w11 : m9.1 34 0 0 = m5.1 34 0 0 := by rw [hm9]; exact wuI_nj (by omega)
      refine ww_go 1 (pc' := 36) (L' := [(0, .inr (.inr (.inl (some (34, 0)))))]) (st' := [.inr (.inr (.inl (some (34, 0))))]) (m' := m9) (o := none) rfl trivial ?_
      refine ww_call (vs := [.inr (.inr (.inl (some (34, 0))))]) (r := []) (p := 0 < 1) rfl rfl rfl rfl (show 0 < 1 from by omega) (zs180 (c := c) (by omega) hGm9) ?_
      rintro _ _ m14 ⟨rfl, rfl, hGm14, hEm14, hr13⟩
      have hFm14 : zfr (fun k i j => (k = 34 ∧ j = 0) ∨ (k = 34 ∧ j = 15) ∨ (k = 34 ∧ j = 14) ∨ (k = 46)) m0 m14 := zfr_tr hFm9 hEm14 (fun k i j z => Or.elim z (fun z => Or.inr (Or.inl z)) (fun z => Or.inr (Or.inr (Or.inr (z)))))
      have w15 : m14.1 34 0 0 = m9.1 34 0 0 := (hEm14 34 0 0 (show ¬ ((34 = 34 ∧ 0 = 15) ∨ (34 = 46)) from by omega)).1
      have w16 : m14.1 34 0 14 = m9.1 34 0 14 := (hEm14 34 0 14 (show ¬ ((34 = 34 ∧ 14 = 15) ∨ (34 = 46)) from by omega)).1
      show wW (zK sc) zM238 39 [(0, .inr (.inr (.inl (some (34, 0)))))] [] _ _ _
      have b17 : 1 ≤ m14.1 34 0 14 ∧ m14.1 34 0 14 ≤ 255 := hGm14.1 34 _ rfl _ _
      refine ww_go 2 (pc' := 43) (L' := [(0, .inr (.inr (.inl (some (34, 0)))))]) (st' := [.inl (m14.1 34 0 14)]) (m' := m14) (o := some ((0 < 1))) rfl (show (0 < 1) from by omega) ?_
      exact ww_rI rfl rfl ⟨_, rfl, rfl, zB_mono hGm14 (by omega), hFm14, by omega⟩
    · show wW (zK sc) zM238 23 [(0, .inr (.inr (.inl (some (34, 0)))))] [] _ _ _
      refine ww_go 1 (pc' := 24) (L' := [(0, .inr (.inr (.inl (some (34, 0)))))]) (st' := [.inl 0]) (m' := m5) (o := none) rfl trivial ?_
      exact ww_rI rfl rfl ⟨_, rfl, rfl, zB_mono hGm5 (by omega), hFm5, by omega⟩
  · show wW (zK sc) zM238 11 [(0, .inr (.inr (.inl (some (34, 0)))))] [.inr (.inr (.inl (some (34, 0))))] _ _ _
    refine ww_go 3 (pc' := 17) (L' := [(0, .inr (.inr (.inl (some (34, 0)))))]) (st' := [.inl 1, .inl 1, .inr (.inr (.inl (some (34, 0))))]) (m' := m0) (o := none) rfl trivial ?_
    refine ww_call (vs := [.inr (.inr (.inl (some (34, 0)))), .inl 1, .inl 1]) (r := []) (p := 0 < 1) rfl rfl rfl rfl (show 0 < 1 from by omega) (zs196 (c := c) (by omega) 1 1 hG (by omega)) ?_
    rintro _ _ m20 ⟨r18, rfl, rfl, hGm20, hEm20, hr19⟩
    have hFm20 : zfr (fun k i j => (k = 34 ∧ j = 0) ∨ (k = 34 ∧ j = 15) ∨ (k = 34 ∧ j = 14) ∨ (k = 46)) m0 m20 := zfr_tr hF hEm20 (fun k i j z => Or.inl z)
    have w21 : m20.1 34 0 14 = m0.1 34 0 14 := (hEm20 34 0 14 (show ¬ ((34 = 34 ∧ 14 = 0)) from by omega)).1
    show wW (zK sc) zM238 20 [(0, .inr (.inr (.inl (some (34, 0)))))] [.inl r18] _ _ _
    refine ww_if (t := 25) rfl rfl (by omega) (fun (h22 : r18 = 0) => ?_) (fun (h22 : ¬ (r18 = 0)) => ?_)
    · show wW (zK sc) zM238 25 [(0, .inr (.inr (.inl (some (34, 0)))))] [] _ _ _
      have b23 : 1 ≤ m20.1 34 0 14 ∧ m20.1 34 0 14 ≤ 255 := hGm20.1 34 _ rfl _ _
      refine ww_go 6 (pc' := 35) (L' := [(0, .inr (.inr (.inl (some (34, 0)))))]) (st' := []) (m' := wuI m20 34 0 14 ((m20.1 34 0 14) + 1)) (o := some ((0 < 1) ∧ (0 < 1))) rfl (show (0 < 1) ∧ (0 < 1) from by omega) ?_
      obtain ⟨m24, hm24⟩ : ∃ zq9 : wm, zq9 = wuI m20 34 0 14 ((m20.1 34 0 14) + 1) := ⟨_, rfl⟩
      rw [← hm24]
      have hGm24 : zB c m24 := by rw [hm24]; exact zB_wI rfl (show 1 ≤ (m20.1 34 0 14) + 1 ∧ (m20.1 34 0 14) + 1 ≤ 255 from by omega) hGm20
      have hFm24 : zfr (fun k i j => (k = 34 ∧ j = 0) ∨ (k = 34 ∧ j = 15) ∨ (k = 34 ∧ j = 14) ∨ (k = 46)) m0 m24 := by rw [hm24]; exact zfr_wI hFm20 (show (34 = 34 ∧ 14 = 0) ∨ (34 = 34 ∧ 14 = 15) ∨ (34 = 34 ∧ 14 = 14) ∨ (34 = 46) from Or.inr (Or.inr (Or.inl (⟨rfl, rfl⟩))))
      have s25 : m24.1 34 0 14 = (m20.1 34 0 14) + 1 := by rw [hm24]; exact wuI_self
      have w26 : m24.1 34 0 0 = m20.1 34 0 0 := by rw [hm24]; exact wuI_nj (by omega)
      refine ww_go 1 (pc' := 36) (L' := [(0, .inr (.inr (.inl (some (34, 0)))))]) (st' := [.inr (.inr (.inl (some (34, 0))))]) (m' := m24) (o := none) rfl trivial ?_
      refine ww_call (vs := [.inr (.inr (.inl (some (34, 0))))]) (r := []) (p := 0 < 1) rfl rfl rfl rfl (show 0 < 1 from by omega) (zs180 (c := c) (by omega) hGm24) ?_
      rintro _ _ m29 ⟨rfl, rfl, hGm29, hEm29, hr28⟩
      have hFm29 : zfr (fun k i j => (k = 34 ∧ j = 0) ∨ (k = 34 ∧ j = 15) ∨ (k = 34 ∧ j = 14) ∨ (k = 46)) m0 m29 := zfr_tr hFm24 hEm29 (fun k i j z => Or.elim z (fun z => Or.inr (Or.inl z)) (fun z => Or.inr (Or.inr (Or.inr (z)))))
      have w30 : m29.1 34 0 0 = m24.1 34 0 0 := (hEm29 34 0 0 (show ¬ ((34 = 34 ∧ 0 = 15) ∨ (34 = 46)) from by omega)).1
      have w31 : m29.1 34 0 14 = m24.1 34 0 14 := (hEm29 34 0 14 (show ¬ ((34 = 34 ∧ 14 = 15) ∨ (34 = 46)) from by omega)).1
      show wW (zK sc) zM238 39 [(0, .inr (.inr (.inl (some (34, 0)))))] [] _ _ _
      have b32 : 1 ≤ m29.1 34 0 14 ∧ m29.1 34 0 14 ≤ 255 := hGm29.1 34 _ rfl _ _
      refine ww_go 2 (pc' := 43) (L' := [(0, .inr (.inr (.inl (some (34, 0)))))]) (st' := [.inl (m29.1 34 0 14)]) (m' := m29) (o := some ((0 < 1))) rfl (show (0 < 1) from by omega) ?_
      exact ww_rI rfl rfl ⟨_, rfl, rfl, zB_mono hGm29 (by omega), hFm29, by omega⟩
    · show wW (zK sc) zM238 23 [(0, .inr (.inr (.inl (some (34, 0)))))] [] _ _ _
      refine ww_go 1 (pc' := 24) (L' := [(0, .inr (.inr (.inl (some (34, 0)))))]) (st' := [.inl 0]) (m' := m20) (o := none) rfl trivial ?_
      exact ww_rI rfl rfl ⟨_, rfl, rfl, zB_mono hGm20 (by omega), hFm20, by omega⟩
