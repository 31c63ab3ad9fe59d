set_option maxRecDepth 8000 in
/-- Bytes.size -/
theorem zs40 {sc : xSc} {n : Nat × Nat} {m : wm} {c : Int} (hc : 0 ≤ c ∧ c ≤ 1000000) (t : Nat) (hG : zB c m) (h0 : t < 171) : wX (zK sc) 40 [.inr (.inr (.inl (some (1, t))))] n m (wr (fun vv n1 m1 => ∃ r : Int, vv = some (.inl r) ∧ n = n1 ∧ m = m1 ∧ (r = m.1 1 t 1 ∧ 0 ≤ r ∧ r ≤ ((zlim t : Nat) : Int) ∧ r ≤ 104))) := by
  refine wX_of (N := zM40) rfl (Nat.le_of_ble_eq_true rfl) ?_
  show wW (zK sc) zM40 0 [(0, .inr (.inr (.inl (some (1, t)))))] [] n m _
  have zl1 := zlim_le t
  have b1 : 0 ≤ m.1 1 t 1 ∧ m.1 1 t 1 ≤ (zlim t : Nat) := hG.1 1 _ rfl _ _
  refine ww_go 2 (pc' := 4) (L' := [(0, .inr (.inr (.inl (some (1, t)))))]) (st' := [.inl (m.1 1 t 1)]) (m' := m) (o := some ((t < 171))) rfl (show (t < 171) from by omega) ?_
  exact ww_rI rfl rfl ⟨_, rfl, rfl, rfl, by exact ⟨rfl, by omega, by omega, by omega⟩⟩
set_option maxRecDepth 8000 in
/-- Bytes.limit -/
theorem zs35 {sc : xSc} {n : Nat × Nat} {m : wm} {c : Int} (hc : 0 ≤ c ∧ c ≤ 1000000) (t : Nat) (hG : zB c m) (h0 : t < 171) : wX (zK sc) 35 [.inr (.inr (.inl (some (1, t))))] n m (wr (fun vv n1 m1 => ∃ r : Int, vv = some (.inl r) ∧ n = n1 ∧ m = m1 ∧ (r = ((zlim t : Nat) : Int)))) := by
  refine wX_of (N := zM35) rfl (Nat.le_of_ble_eq_true rfl) ?_
  show wW (zK sc) zM35 0 [(0, .inr (.inr (.inl (some (1, t)))))] [] n m _
  refine ww_go 3 (pc' := 5) (L' := [(0, .inr (.inr (.inl (some (1, t)))))]) (st' := [.inl (((zlim t : Nat) : Int))]) (m' := m) (o := some ((t < 171) ∧ (t < 171))) rfl (show (t < 171) ∧ (t < 171) from by omega) ?_
  exact ww_rI rfl rfl ⟨_, rfl, rfl, rfl, by rfl⟩
set_option maxRecDepth 8000 in
/-- Bytes.clear -/
theorem zs29 {sc : xSc} {n : Nat × Nat} {m0 : wm} {c : Int} (hc : 0 ≤ c ∧ c ≤ 1000000) (t : Nat) (hG : zB c m0) (h0 : t < 171) : wX (zK sc) 29 [.inr (.inr (.inl (some (1, t))))] n m0 (wr (fun vv n1 m1 => vv = none ∧ n = n1 ∧ zB c m1 ∧ zfr (fun k i j => (k = 1 ∧ i = t ∧ j = 1)) m0 m1 ∧ (m1.1 1 t 1 = 0))) := by
  refine wX_of (N := zM29) rfl (Nat.le_of_ble_eq_true rfl) ?_
  show wW (zK sc) zM29 0 [(0, .inr (.inr (.inl (some (1, t)))))] [] n m0 _
  have hF : zfr (fun k i j => (k = 1 ∧ i = t ∧ j = 1)) m0 m0 := zfr_rf
  refine ww_go 3 (pc' := 5) (L' := [(0, .inr (.inr (.inl (some (1, t)))))]) (st' := []) (m' := wuI m0 1 t 1 0) (o := some ((t < 171))) rfl (show (t < 171) from by omega) ?_
  obtain ⟨m1, hm1⟩ : ∃ zq9 : wm, zq9 = wuI m0 1 t 1 0 := ⟨_, rfl⟩
  rw [← hm1]
  have hGm1 : zB c m1 := by rw [hm1]; exact zB_wI rfl (show 0 ≤ (0 : Int) ∧ (0 : Int) ≤ (zlim t : Nat) from by omega) hG
  have hFm1 : zfr (fun k i j => (k = 1 ∧ i = t ∧ j = 1)) m0 m1 := by rw [hm1]; exact zfr_wI hF (show (1 = 1 ∧ t = t ∧ 1 = 1) from (show (1 = 1 ∧ t = t ∧ 1 = 1) from by omega))
  have s2 : m1.1 1 t 1 = (0 : Int) := by rw [hm1]; exact wuI_self
  exact ww_rV rfl rfl ⟨rfl, rfl, zB_mono hGm1 (by omega), hFm1, by omega⟩
set_option maxRecDepth 8000 in
/-- Bytes.resize -/
theorem zs39 {sc : xSc} {n : Nat × Nat} {m0 : wm} {c : Int} (hc : 0 ≤ c ∧ c ≤ 1000000) (x : Int) (t : Nat) (hG : zB c m0) (h0 : t < 171 ∧ -2147483648 ≤ x ∧ x ≤ 2147483647) : wX (zK sc) 39 [.inr (.inr (.inl (some (1, t)))), .inl x] n m0 (wr (fun vv n1 m1 => vv = none ∧ n = n1 ∧ zB c m1 ∧ zfr (fun k i j => (k = 1 ∧ i = t ∧ j = 1)) m0 m1 ∧ (m1.1 1 t 1 = max 0 (min x ((zlim t : Nat) : Int))))) := by
  refine wX_of (N := zM39) rfl (Nat.le_of_ble_eq_true rfl) ?_
  show wW (zK sc) zM39 0 [(0, .inr (.inr (.inl (some (1, t))))), (1, .inl x)] [] n m0 _
  have hF : zfr (fun k i j => (k = 1 ∧ i = t ∧ j = 1)) m0 m0 := zfr_rf
  have zl1 := zlim_le t
  refine ww_go 9 (pc' := 17) (L' := [(0, .inr (.inr (.inl (some (1, t))))), (1, .inl x)]) (st' := []) (m' := wuI m0 1 t 1 (max 0 (min x (((zlim t : Nat) : Int))))) (o := some ((t < 171) ∧ (t < 171) ∧ (-2147483648 ≤ x ∧ x ≤ 2147483647 ∧ -2147483648 ≤ ((zlim t : Nat) : Int) ∧ ((zlim t : Nat) : Int) ≤ 2147483647) ∧ (-2147483648 ≤ (0 : Int) ∧ (0 : Int) ≤ 2147483647 ∧ -2147483648 ≤ min x (((zlim t : Nat) : Int)) ∧ min x (((zlim t : Nat) : Int)) ≤ 2147483647) ∧ (t < 171))) rfl (show (t < 171) ∧ (t < 171) ∧ (-2147483648 ≤ x ∧ x ≤ 2147483647 ∧ -2147483648 ≤ ((zlim t : Nat) : Int) ∧ ((zlim t : Nat) : Int) ≤ 2147483647) ∧ (-2147483648 ≤ (0 : Int) ∧ (0 : Int) ≤ 2147483647 ∧ -2147483648 ≤ min x (((zlim t : Nat) : Int)) ∧ min x (((zlim t : Nat) : Int)) ≤ 2147483647) ∧ (t < 171) from by omega) ?_
  obtain ⟨m1, hm1⟩ : ∃ zq9 : wm, zq9 = wuI m0 1 t 1 (max 0 (min x (((zlim t : Nat) : Int)))) := ⟨_, rfl⟩
  rw [← hm1]
  have hGm1 : zB c m1 := by rw [hm1]; exact zB_wI rfl (show 0 ≤ max 0 (min x (((zlim t : Nat) : Int))) ∧ max 0 (min x (((zlim t : Nat) : Int))) ≤ (zlim t : Nat) from by omega) hG
  have hFm1 : zfr (fun k i j => (k = 1 ∧ i = t ∧ j = 1)) m0 m1 := by rw [hm1]; exact zfr_wI hF (show (1 = 1 ∧ t = t ∧ 1 = 1) from (show (1 = 1 ∧ t = t ∧ 1 = 1) from by omega))
  have s2 : m1.1 1 t 1 = max 0 (min x (((zlim t : Nat) : Int))) := by rw [hm1]; exact wuI_self
  exact ww_rV rfl rfl ⟨rfl, rfl, zB_mono hGm1 (by omega), hFm1, by omega⟩
set_option maxRecDepth 8000 in
/-- Bytes.at -/
theorem zs28 {sc : xSc} {n : Nat × Nat} {m : wm} {c : Int} (hc : 0 ≤ c ∧ c ≤ 1000000) (x : Int) (t : Nat) (hG : zB c m) (h0 : t < 171 ∧ -2147483648 ≤ x ∧ x ≤ 2147483647) : wX (zK sc) 28 [.inr (.inr (.inl (some (1, t)))), .inl x] n m (wr (fun vv n1 m1 => ∃ r : Int, vv = some (.inl r) ∧ n = n1 ∧ m = m1 ∧ (r = zBat m t x ∧ 0 ≤ r ∧ r ≤ 255))) := by
  refine wX_of (N := zM28) rfl (Nat.le_of_ble_eq_true rfl) ?_
  show wW (zK sc) zM28 0 [(0, .inr (.inr (.inl (some (1, t))))), (1, .inl x)] [] n m _
  have zl1 := zlim_le t
  refine ww_go 1 (pc' := 1) (L' := [(0, .inr (.inr (.inl (some (1, t))))), (1, .inl x)]) (st' := [.inl x]) (m' := m) (o := none) rfl trivial ?_
  refine ww_if (t := 21) rfl rfl (by omega) (fun (h1 : x < 0) => ?_) (fun (h1 : ¬ (x < 0)) => ?_)
  · show wW (zK sc) zM28 21 [(0, .inr (.inr (.inl (some (1, t))))), (1, .inl x)] [] _ _ _
    refine ww_go 1 (pc' := 22) (L' := [(0, .inr (.inr (.inl (some (1, t))))), (1, .inl x)]) (st' := [.inl 0]) (m' := m) (o := none) rfl trivial ?_
    exact ww_rI rfl rfl ⟨_, rfl, rfl, rfl, by exact ⟨zBat_out (by omega), by omega, by omega⟩⟩
  · show wW (zK sc) zM28 4 [(0, .inr (.inr (.inl (some (1, t))))), (1, .inl x)] [] _ _ _
    have b2 : 0 ≤ m.1 1 t 1 ∧ m.1 1 t 1 ≤ (zlim t : Nat) := hG.1 1 _ rfl _ _
    refine ww_go 3 (pc' := 9) (L' := [(0, .inr (.inr (.inl (some (1, t))))), (1, .inl x)]) (st' := [.inl (m.1 1 t 1), .inl x]) (m' := m) (o := some ((t < 171))) rfl (show (t < 171) from by omega) ?_
    refine ww_ic (t := 21) rfl rfl (by omega) (fun (h3 : m.1 1 t 1 ≤ x) => ?_) (fun (h3 : ¬ (m.1 1 t 1 ≤ x)) => ?_)
    · show wW (zK sc) zM28 21 [(0, .inr (.inr (.inl (some (1, t))))), (1, .inl x)] [] _ _ _
      refine ww_go 1 (pc' := 22) (L' := [(0, .inr (.inr (.inl (some (1, t))))), (1, .inl x)]) (st' := [.inl 0]) (m' := m) (o := none) rfl trivial ?_
      exact ww_rI rfl rfl ⟨_, rfl, rfl, rfl, by exact ⟨zBat_out (by omega), by omega, by omega⟩⟩
    · show wW (zK sc) zM28 12 [(0, .inr (.inr (.inl (some (1, t))))), (1, .inl x)] [] _ _ _
      have b4 : 0 ≤ m.1 2 t x.toNat ∧ m.1 2 t x.toNat ≤ 255 := hG.1 2 _ rfl _ _
      refine ww_go 5 (pc' := 22) (L' := [(0, .inr (.inr (.inl (some (1, t))))), (1, .inl x)]) (st' := [.inl (m.1 2 t x.toNat)]) (m' := m) (o := some ((t < 171) ∧ (t < 171 ∧ 0 ≤ x ∧ x < ((zlim t : Nat) : Int)))) rfl (show (t < 171) ∧ (t < 171 ∧ 0 ≤ x ∧ x < ((zlim t : Nat) : Int)) from by omega) ?_
      exact ww_rI rfl rfl ⟨_, rfl, rfl, rfl, by exact ⟨zBat_in (by omega) (by omega), by omega, by omega⟩⟩
set_option maxRecDepth 8000 in
/-- Bytes.put -/
theorem zs37 {sc : xSc} {n : Nat × Nat} {m0 : wm} {c : Int} (hc : 0 ≤ c ∧ c ≤ 1000000) (x : Int) (y : Int) (t : Nat) (hG : zB c m0) (h0 : t < 171 ∧ -2147483648 ≤ x ∧ x ≤ 2147483647) : wX (zK sc) 37 [.inr (.inr (.inl (some (1, t)))), .inl x, .inl y] n m0 (wr (fun vv n1 m1 => vv = none ∧ n = n1 ∧ zB c m1 ∧ zfr (fun k i j => (k = 2 ∧ i = t ∧ j = x.toNat)) m0 m1 ∧ (0 ≤ x → x < m0.1 1 t 1 → m1.1 2 t x.toNat = wand y 255))) := by
  refine wX_of (N := zM37) rfl (Nat.le_of_ble_eq_true rfl) ?_
  show wW (zK sc) zM37 0 [(0, .inr (.inr (.inl (some (1, t))))), (1, .inl x), (2, .inl y)] [] n m0 _
  have hF : zfr (fun k i j => (k = 2 ∧ i = t ∧ j = x.toNat)) m0 m0 := zfr_rf
  have zl1 := zlim_le t
  refine ww_go 1 (pc' := 1) (L' := [(0, .inr (.inr (.inl (some (1, t))))), (1, .inl x), (2, .inl y)]) (st' := [.inl x]) (m' := m0) (o := none) rfl trivial ?_
  refine ww_if (t := 23) rfl rfl (by omega) (fun (h1 : x < 0) => ?_) (fun (h1 : ¬ (x < 0)) => ?_)
  · show wW (zK sc) zM37 23 [(0, .inr (.inr (.inl (some (1, t))))), (1, .inl x), (2, .inl y)] [] _ _ _
    exact ww_rV rfl rfl ⟨rfl, rfl, zB_mono hG (by omega), hF, fun z1 z2 => (by omega)⟩
  · show wW (zK sc) zM37 4 [(0, .inr (.inr (.inl (some (1, t))))), (1, .inl x), (2, .inl y)] [] _ _ _
    have b2 : 0 ≤ m0.1 1 t 1 ∧ m0.1 1 t 1 ≤ (zlim t : Nat) := hG.1 1 _ rfl _ _
    refine ww_go 3 (pc' := 9) (L' := [(0, .inr (.inr (.inl (some (1, t))))), (1, .inl x), (2, .inl y)]) (st' := [.inl (m0.1 1 t 1), .inl x]) (m' := m0) (o := some ((t < 171))) rfl (show (t < 171) from by omega) ?_
    refine ww_ic (t := 23) rfl rfl (by omega) (fun (h3 : m0.1 1 t 1 ≤ x) => ?_) (fun (h3 : ¬ (m0.1 1 t 1 ≤ x)) => ?_)
    · show wW (zK sc) zM37 23 [(0, .inr (.inr (.inl (some (1, t))))), (1, .inl x), (2, .inl y)] [] _ _ _
      exact ww_rV rfl rfl ⟨rfl, rfl, zB_mono hG (by omega), hF, fun z1 z2 => (by omega)⟩
    · show wW (zK sc) zM37 12 [(0, .inr (.inr (.inl (some (1, t))))), (1, .inl x), (2, .inl y)] [] _ _ _
      have t4 := wand_rg y 255
      have t5 := wand_m255 y
      refine ww_go 7 (pc' := 23) (L' := [(0, .inr (.inr (.inl (some (1, t))))), (1, .inl x), (2, .inl y)]) (st' := []) (m' := wuI m0 2 t x.toNat (wand y 255)) (o := some ((t < 171) ∧ (t < 171 ∧ 0 ≤ x ∧ x < ((zlim t : Nat) : Int)))) rfl (show (t < 171) ∧ (t < 171 ∧ 0 ≤ x ∧ x < ((zlim t : Nat) : Int)) from by omega) ?_
      obtain ⟨m6, hm6⟩ : ∃ zq9 : wm, zq9 = wuI m0 2 t x.toNat (wand y 255) := ⟨_, rfl⟩
      rw [← hm6]
      have hGm6 : zB c m6 := by rw [hm6]; exact zB_wI rfl (show 0 ≤ wand y 255 ∧ wand y 255 ≤ 255 from by omega) hG
      have hFm6 : zfr (fun k i j => (k = 2 ∧ i = t ∧ j = x.toNat)) m0 m6 := by rw [hm6]; exact zfr_wI hF (show (2 = 2 ∧ t = t ∧ x.toNat = x.toNat) from (show (2 = 2 ∧ t = t ∧ x.toNat = x.toNat) from by omega))
      have s7 : m6.1 2 t x.toNat = wand y 255 := by rw [hm6]; exact wuI_self
      exact ww_rV rfl rfl ⟨rfl, rfl, zB_mono hGm6 (by omega), hFm6, fun z1 z2 => (by omega)⟩
set_option maxRecDepth 8000 in
/-- Bytes.turn -/
theorem zs41 {sc : xSc} {n : Nat × Nat} {m0 : wm} {c : Int} (hc : 0 ≤ c ∧ c ≤ 1000000) (x : Int) (y : Int) (t : Nat) (hG : zB c m0) (h0 : t < 171 ∧ -2147483648 ≤ x ∧ x ≤ 2147483647 ∧ -2147483648 ≤ y ∧ y ≤ 2147483647) : wX (zK sc) 41 [.inr (.inr (.inl (some (1, t)))), .inl x, .inl y] n m0 (wr (fun vv n1 m1 => vv = none ∧ n = n1 ∧ zB c m1 ∧ zfr (fun k i j => (k = 2 ∧ i = t ∧ j = x.toNat)) m0 m1 ∧ (0 ≤ x → x < m0.1 1 t 1 → m1.1 2 t x.toNat = wand (wxor (m0.1 2 t x.toNat) y) 255))) := by
  refine wX_of (N := zM41) rfl (Nat.le_of_ble_eq_true rfl) ?_
  show wW (zK sc) zM41 0 [(0, .inr (.inr (.inl (some (1, t))))), (1, .inl x), (2, .inl y)] [] n m0 _
  have hF : zfr (fun k i j => (k = 2 ∧ i = t ∧ j = x.toNat)) m0 m0 := zfr_rf
  refine ww_go 4 (pc' := 4) (L' := [(0, .inr (.inr (.inl (some (1, t))))), (1, .inl x), (2, .inl y)]) (st' := [.inl x, .inr (.inr (.inl (some (1, t)))), .inl x, .inr (.inr (.inl (some (1, t))))]) (m' := m0) (o := none) rfl trivial ?_
  refine ww_call (vs := [.inr (.inr (.inl (some (1, t)))), .inl x]) (r := [.inl x, .inr (.inr (.inl (some (1, t))))]) (p := t < 171) rfl rfl rfl rfl (show t < 171 from by omega) (zs28 (c := c) (by omega) x t hG (by omega)) ?_
  rintro _ _ _ ⟨r1, rfl, rfl, rfl, hr2⟩
  show wW (zK sc) zM41 7 [(0, .inr (.inr (.inl (some (1, t))))), (1, .inl x), (2, .inl y)] [.inl r1, .inl x, .inr (.inr (.inl (some (1, t))))] _ _ _
  have t3 := wxor_rg r1 y
  have t4 : (0 ≤ r1 ∧ r1 ≤ 255 ∧ 0 ≤ y ∧ y ≤ 255) → (0 ≤ wxor r1 y ∧ wxor r1 y ≤ 255) := fun z => wxor_255 ⟨z.1, z.2.1⟩ z.2.2
  have t5 : (0 ≤ r1 ∧ r1 ≤ 65535 ∧ 0 ≤ y ∧ y ≤ 65535) → (0 ≤ wxor r1 y ∧ wxor r1 y ≤ 65535) := fun z => wxor_65535 ⟨z.1, z.2.1⟩ z.2.2
  have t6 : (0 ≤ r1 ∧ r1 ≤ 2147483647 ∧ 0 ≤ y ∧ y ≤ 2147483647) → (0 ≤ wxor r1 y ∧ wxor r1 y ≤ 2147483647) := fun z => wxor_2147483647 ⟨z.1, z.2.1⟩ z.2.2
  refine ww_go 2 (pc' := 9) (L' := [(0, .inr (.inr (.inl (some (1, t))))), (1, .inl x), (2, .inl y)]) (st' := [.inl (wxor r1 y), .inl x, .inr (.inr (.inl (some (1, t))))]) (m' := m0) (o := none) rfl trivial ?_
  refine ww_call (vs := [.inr (.inr (.inl (some (1, t)))), .inl x, .inl (wxor r1 y)]) (r := []) (p := t < 171) rfl rfl rfl rfl (show t < 171 from by omega) (zs37 (c := c) (by omega) x (wxor r1 y) t hG (by omega)) ?_
  rintro _ _ m9 ⟨rfl, rfl, hGm9, hEm9, hr8⟩
  have hFm9 : zfr (fun k i j => (k = 2 ∧ i = t ∧ j = x.toNat)) m0 m9 := zfr_tr hF hEm9 (fun k i j z => z)
  show wW (zK sc) zM41 12 [(0, .inr (.inr (.inl (some (1, t))))), (1, .inl x), (2, .inl y)] [] _ _ _
  exact ww_rV rfl rfl ⟨rfl, rfl, zB_mono hGm9 (by omega), hFm9, fun z1 z2 => (by rw [hr8 z1 z2, hr2.1, ← zBat_in z1 z2])⟩
set_option maxRecDepth 8000 in
theorem zs36_l5 {sc : xSc} {n : Nat × Nat} {m : wm} {c : Int} (hc : 0 ≤ c ∧ c ≤ 1000000) (x : Int) (y : Int) (t : Nat) (hG : zB c m) (h0 : t < 171 ∧ -1000000 ≤ x ∧ x ≤ 1000000 ∧ 0 ≤ y ∧ y ≤ 1000000) : ∀ (d : Nat), ∀ (w : Int64) (u : Int), (y - u).toNat = d → (0 ≤ u ∧ u ≤ y) → (y ≤ 2 → (u = 0 → w.toInt = 0) ∧ (u = 1 → w.toInt = zBat m t x) ∧ (u = 2 → w.toInt = 256 * zBat m t x + zBat m t (x + 1))) → (0 ≤ x → w = zen (fun k => (zBR m t).2 (x.toNat + k)) u.toNat) →  wW (zK sc) zM36 5 [(0, .inr (.inr (.inl (some (1, t))))), (1, .inl x), (2, .inl y), (3, .inr (.inl w)), (5, .inl u)] [] n m (wr (fun vv n1 m1 => ∃ r : Int64, vv = some (.inr (.inl r)) ∧ n = n1 ∧ m = m1 ∧ ((y = 2 → wl2i r = 256 * zBat m t x + zBat m t (x + 1)) ∧ (0 ≤ x → r = zen (fun k => (zBR m t).2 (x.toNat + k)) y.toNat)))) := by
  intro d
  induction d using Nat.strongRecOn with
  | ind d ih =>
    intro w u hd hi hn hz
    have ha0 := zBat_rg hG t x
    have ha1 := zBat_rg hG t (x + 1)
    refine ww_go 2 (pc' := 8) (L' := [(0, .inr (.inr (.inl (some (1, t))))), (1, .inl x), (2, .inl y), (3, .inr (.inl w)), (5, .inl u)]) (st' := [.inl y, .inl u]) (m' := m) (o := none) rfl trivial ?_
    refine ww_ic (t := 32) rfl rfl (by omega) (fun (h1 : y ≤ u) => ?_) (fun (h1 : ¬ (y ≤ u)) => ?_)
    · show wW (zK sc) zM36 32 [(0, .inr (.inr (.inl (some (1, t))))), (1, .inl x), (2, .inl y), (3, .inr (.inl w)), (5, .inl u)] [] _ _ _
      refine ww_go 1 (pc' := 33) (L' := [(0, .inr (.inr (.inl (some (1, t))))), (1, .inl x), (2, .inl y), (3, .inr (.inl w)), (5, .inl u)]) (st' := [.inr (.inl w)]) (m' := m) (o := none) rfl trivial ?_
      exact ww_rL rfl rfl ⟨_, rfl, rfl, rfl, by exact ⟨fun z => (by have z9 := (hn (by omega)).2.2 (by omega); rw [wl2i_small (by omega), z9]), fun z => (by rw [show y = u from by omega]; exact hz z)⟩⟩
    · show wW (zK sc) zM36 11 [(0, .inr (.inr (.inl (some (1, t))))), (1, .inl x), (2, .inl y), (3, .inr (.inl w)), (5, .inl u)] [] _ _ _
      refine ww_go 7 (pc' := 20) (L' := [(0, .inr (.inr (.inl (some (1, t))))), (1, .inl x), (2, .inl y), (3, .inr (.inl w)), (5, .inl u)]) (st' := [.inl (x + u), .inr (.inr (.inl (some (1, t)))), .inr (.inl (w <<< (wi2l 8 &&& 63)))]) (m' := m) (o := none) rfl trivial ?_
      refine ww_call (vs := [.inr (.inr (.inl (some (1, t)))), .inl (x + u)]) (r := [.inr (.inl (w <<< (wi2l 8 &&& 63)))]) (p := t < 171) rfl rfl rfl rfl (show t < 171 from by omega) (zs28 (c := c) (by omega) (x + u) t hG (by omega)) ?_
      rintro _ _ _ ⟨r2, rfl, rfl, rfl, hr3⟩
      show wW (zK sc) zM36 23 [(0, .inr (.inr (.inl (some (1, t))))), (1, .inl x), (2, .inl y), (3, .inr (.inl w)), (5, .inl u)] [.inl r2, .inr (.inl (w <<< (wi2l 8 &&& 63)))] _ _ _
      refine ww_go 5 (pc' := 5) (L' := [(5, .inl (u + 1)), (3, .inr (.inl ((w <<< (wi2l 8 &&& 63)) ||| (wi2l r2)))), (0, .inr (.inr (.inl (some (1, t))))), (1, .inl x), (2, .inl y)]) (st' := []) (m' := m) (o := none) rfl trivial ?_
      refine ww_sub (L := [(0, .inr (.inr (.inl (some (1, t))))), (1, .inl x), (2, .inl y), (3, .inr (.inl ((w <<< (wi2l 8 &&& 63)) ||| (wi2l r2)))), (5, .inl (u + 1))]) ⟨rfl, rfl, rfl, rfl, rfl, trivial⟩ rfl rfl ?_
      exact (ih _ (by omega)) ((w <<< (wi2l 8 &&& 63)) ||| (wi2l r2)) (u + 1) rfl (by omega) (by exact fun z => ⟨fun z1 => by omega, fun z1 => by rw [znum_s (by rw [(hn z).1 (by omega)]; omega) (by omega), (hn z).1 (by omega), (hr3).1, show x + u = x from by omega]; omega, fun z1 => by rw [znum_s (by rw [(hn z).2.1 (by omega)]; omega) (by omega), (hn z).2.1 (by omega), (hr3).1, show x + u = x + 1 from by omega]⟩) (by exact fun z => (by rw [hz z, hr3.1, zBR_at (by omega), show (u + 1).toNat = u.toNat + 1 from by omega, show (x + u).toNat = x.toNat + u.toNat from by omega]; rfl))
set_option maxRecDepth 8000 in
/-- Bytes.number -/
theorem zs36 {sc : xSc} {n : Nat × Nat} {m : wm} {c : Int} (hc : 0 ≤ c ∧ c ≤ 1000000) (x : Int) (y : Int) (t : Nat) (hG : zB c m) (h0 : t < 171 ∧ -1000000 ≤ x ∧ x ≤ 1000000 ∧ 0 ≤ y ∧ y ≤ 1000000) : wX (zK sc) 36 [.inr (.inr (.inl (some (1, t)))), .inl x, .inl y] n m (wr (fun vv n1 m1 => ∃ r : Int64, vv = some (.inr (.inl r)) ∧ n = n1 ∧ m = m1 ∧ ((y = 2 → wl2i r = 256 * zBat m t x + zBat m t (x + 1)) ∧ (0 ≤ x → r = zen (fun k => (zBR m t).2 (x.toNat + k)) y.toNat)))) := by
  refine wX_of (N := zM36) rfl (Nat.le_of_ble_eq_true rfl) ?_
  show wW (zK sc) zM36 0 [(0, .inr (.inr (.inl (some (1, t))))), (1, .inl x), (2, .inl y)] [] n m _
  have ha0 := zBat_rg hG t x
  have ha1 := zBat_rg hG t (x + 1)
  refine ww_go 4 (pc' := 5) (L' := [(5, .inl 0), (3, .inr (.inl (Int64.ofNat 0))), (0, .inr (.inr (.inl (some (1, t))))), (1, .inl x), (2, .inl y)]) (st' := []) (m' := m) (o := none) rfl trivial ?_
  refine ww_sub (L := [(0, .inr (.inr (.inl (some (1, t))))), (1, .inl x), (2, .inl y), (3, .inr (.inl (Int64.ofNat 0))), (5, .inl 0)]) ⟨rfl, rfl, rfl, rfl, rfl, trivial⟩ rfl rfl ?_
  exact (zs36_l5 hc x y t hG h0 _) (Int64.ofNat 0) 0 rfl (by omega) (by exact fun _ => ⟨fun _ => rfl, fun z => by omega, fun z => by omega⟩) (by exact fun _ => rfl)
set_option maxRecDepth 8000 in
theorem zs38_l3 {sc : xSc} {n : Nat × Nat} {m0 : wm} {c : Int} (hc : 0 ≤ c ∧ c ≤ 1000000) (x : Int) (v : Int64) (y : Int) (t : Nat) (hG : zB c m0) (h0 : t < 171 ∧ -1000000 ≤ x ∧ x ≤ 1000000 ∧ 0 ≤ y ∧ y ≤ 1000000) : ∀ (d : Nat), ∀ (u : Int) (m : wm), (y - u).toNat = d → zB c m → zfr (fun k i j => (k = 2 ∧ i = t)) m0 m → (0 ≤ u ∧ u ≤ y) →  wW (zK sc) zM38 3 [(0, .inr (.inr (.inl (some (1, t))))), (1, .inl x), (2, .inr (.inl v)), (4, .inl y), (5, .inl u)] [] n m (wr (fun vv n1 m1 => vv = none ∧ n = n1 ∧ zB c m1 ∧ zfr (fun k i j => (k = 2 ∧ i = t)) m0 m1 ∧ True)) := by
  intro d
  induction d using Nat.strongRecOn with
  | ind d ih =>
    intro u m hd hGm hFm hi
    refine ww_go 2 (pc' := 7) (L' := [(0, .inr (.inr (.inl (some (1, t))))), (1, .inl x), (2, .inr (.inl v)), (4, .inl y), (5, .inl u)]) (st' := [.inl y, .inl u]) (m' := m) (o := none) rfl trivial ?_
    refine ww_ic (t := 37) rfl rfl (by omega) (fun (h1 : y ≤ u) => ?_) (fun (h1 : ¬ (y ≤ u)) => ?_)
    · show wW (zK sc) zM38 37 [(0, .inr (.inr (.inl (some (1, t))))), (1, .inl x), (2, .inr (.inl v)), (4, .inl y), (5, .inl u)] [] _ _ _
      exact ww_rV rfl rfl ⟨rfl, rfl, zB_mono hGm (by omega), hFm, by trivial⟩
    · show wW (zK sc) zM38 10 [(0, .inr (.inr (.inl (some (1, t))))), (1, .inl x), (2, .inr (.inl v)), (4, .inl y), (5, .inl u)] [] _ _ _
      have t2 := wl2i_rg ((v.toUInt64 >>> ((wi2l (8 * ((y - 1) - u))).toUInt64 &&& Int64.toUInt64 63)).toInt64)
      refine ww_go 14 (pc' := 28) (L' := [(0, .inr (.inr (.inl (some (1, t))))), (1, .inl x), (2, .inr (.inl v)), (4, .inl y), (5, .inl u)]) (st' := [.inl (wl2i ((v.toUInt64 >>> ((wi2l (8 * ((y - 1) - u))).toUInt64 &&& Int64.toUInt64 63)).toInt64)), .inl (x + u), .inr (.inr (.inl (some (1, t))))]) (m' := m) (o := none) rfl trivial ?_
      refine ww_call (vs := [.inr (.inr (.inl (some (1, t)))), .inl (x + u), .inl (wl2i ((v.toUInt64 >>> ((wi2l (8 * ((y - 1) - u))).toUInt64 &&& Int64.toUInt64 63)).toInt64))]) (r := []) (p := t < 171) rfl rfl rfl rfl (show t < 171 from by omega) (zs37 (c := c) (by omega) (x + u) (wl2i ((v.toUInt64 >>> ((wi2l (8 * ((y - 1) - u))).toUInt64 &&& Int64.toUInt64 63)).toInt64)) t hGm (by omega)) ?_
      rintro _ _ m5 ⟨rfl, rfl, hGm5, hEm5, hr4⟩
      have hFm5 : zfr (fun k i j => (k = 2 ∧ i = t)) m0 m5 := zfr_tr hFm hEm5 (fun k i j z => (show (k = 2 ∧ i = t) from (show k = 2 ∧ i = t from by omega)))
      show wW (zK sc) zM38 31 [(0, .inr (.inr (.inl (some (1, t))))), (1, .inl x), (2, .inr (.inl v)), (4, .inl y), (5, .inl u)] [] _ _ _
      refine ww_go 2 (pc' := 3) (L' := [(5, .inl (u + 1)), (0, .inr (.inr (.inl (some (1, t))))), (1, .inl x), (2, .inr (.inl v)), (4, .inl y)]) (st' := []) (m' := m5) (o := none) rfl trivial ?_
      refine ww_sub (L := [(0, .inr (.inr (.inl (some (1, t))))), (1, .inl x), (2, .inr (.inl v)), (4, .inl y), (5, .inl (u + 1))]) ⟨rfl, rfl, rfl, rfl, rfl, trivial⟩ rfl rfl ?_
      exact (ih _ (by omega)) (u + 1) m5 rfl (zB_mono hGm5 (by omega)) hFm5 (by omega)
set_option maxRecDepth 8000 in
/-- Bytes.putNumber -/
theorem zs38 {sc : xSc} {n : Nat × Nat} {m0 : wm} {c : Int} (hc : 0 ≤ c ∧ c ≤ 1000000) (x : Int) (v : Int64) (y : Int) (t : Nat) (hG : zB c m0) (h0 : t < 171 ∧ -1000000 ≤ x ∧ x ≤ 1000000 ∧ 0 ≤ y ∧ y ≤ 1000000) : wX (zK sc) 38 [.inr (.inr (.inl (some (1, t)))), .inl x, .inr (.inl v), .inl y] n m0 (wr (fun vv n1 m1 => vv = none ∧ n = n1 ∧ zB c m1 ∧ zfr (fun k i j => (k = 2 ∧ i = t)) m0 m1 ∧ True)) := by
  refine wX_of (N := zM38) rfl (Nat.le_of_ble_eq_true rfl) ?_
  show wW (zK sc) zM38 0 [(0, .inr (.inr (.inl (some (1, t))))), (1, .inl x), (2, .inr (.inl v)), (4, .inl y)] [] n m0 _
  have hF : zfr (fun k i j => (k = 2 ∧ i = t)) m0 m0 := zfr_rf
  refine ww_go 2 (pc' := 3) (L' := [(5, .inl 0), (0, .inr (.inr (.inl (some (1, t))))), (1, .inl x), (2, .inr (.inl v)), (4, .inl y)]) (st' := []) (m' := m0) (o := none) rfl trivial ?_
  refine ww_sub (L := [(0, .inr (.inr (.inl (some (1, t))))), (1, .inl x), (2, .inr (.inl v)), (4, .inl y), (5, .inl 0)]) ⟨rfl, rfl, rfl, rfl, rfl, trivial⟩ rfl rfl ?_
  exact (zs38_l3 hc x v y t hG h0 _) 0 m0 rfl (zB_mono hG (by omega)) hF (by omega)
set_option maxRecDepth 8000 in
theorem zs26_l3 {sc : xSc} {n : Nat × Nat} {m0 : wm} {c : Int} (hc : 0 ≤ c ∧ c ≤ 1000000) (v : Int64) (y : Int) (t : Nat) (hG : zB c m0) (h0 : t < 171 ∧ 0 ≤ y ∧ y ≤ 1000000) : ∀ (d : Nat), ∀ (u : Int) (m : wm), (y - u).toNat = d → zB c m → zfr (fun k i j => (k = 1 ∧ i = t ∧ j = 1) ∨ (k = 2 ∧ i = t)) m0 m → (0 ≤ u ∧ u ≤ y ∧ m.1 1 t 1 = m0.1 1 t 1 + u) → (y ≤ 8 → zApu (m.1 2 t) (m0.1 2 t) (m0.1 1 t 1) u y v) →  wW (zK sc) zM26 3 [(0, .inr (.inr (.inl (some (1, t))))), (1, .inr (.inl v)), (3, .inl y), (4, .inl u)] [] n m (wr (fun vv n1 m1 => vv = none ∧ n = n1 ∧ zB c m1 ∧ zfr (fun k i j => (k = 1 ∧ i = t ∧ j = 1) ∨ (k = 2 ∧ i = t)) m0 m1 ∧ (m1.1 1 t 1 = min (m0.1 1 t 1 + y) ((zlim t : Nat) : Int) ∧ (y ≤ 8 → m0.1 1 t 1 + y ≤ ((zlim t : Nat) : Int) → zApd (m1.1 2 t) (m0.1 2 t) (m0.1 1 t 1) y v)))) := by
  intro d
  induction d using Nat.strongRecOn with
  | ind d ih =>
    intro u m hd hGm hFm hi ha
    have zl1 := zlim_le t
    have q1 : 0 ≤ m0.1 1 t 1 ∧ m0.1 1 t 1 ≤ ((zlim t : Nat) : Int) := hG.1 1 _ rfl _ _
    have q2 : 0 ≤ m.1 1 t 1 ∧ m.1 1 t 1 ≤ ((zlim t : Nat) : Int) := hGm.1 1 _ rfl _ _
    refine ww_go 2 (pc' := 6) (L' := [(0, .inr (.inr (.inl (some (1, t))))), (1, .inr (.inl v)), (3, .inl y), (4, .inl u)]) (st' := [.inl y, .inl u]) (m' := m) (o := none) rfl trivial ?_
    refine ww_ic (t := 62) rfl rfl (by omega) (fun (h1 : y ≤ u) => ?_) (fun (h1 : ¬ (y ≤ u)) => ?_)
    · show wW (zK sc) zM26 62 [(0, .inr (.inr (.inl (some (1, t))))), (1, .inr (.inl v)), (3, .inl y), (4, .inl u)] [] _ _ _
      exact ww_rV rfl rfl ⟨rfl, rfl, zB_mono hGm (by omega), hFm, ⟨by omega, fun z1 z2 => (by have z9 := ha z1; rw [show u = y from by omega] at z9; exact zApu_d z9)⟩⟩
    · show wW (zK sc) zM26 9 [(0, .inr (.inr (.inl (some (1, t))))), (1, .inr (.inl v)), (3, .inl y), (4, .inl u)] [] _ _ _
      have b2 : 0 ≤ m.1 1 t 1 ∧ m.1 1 t 1 ≤ (zlim t : Nat) := hGm.1 1 _ rfl _ _
      refine ww_go 5 (pc' := 18) (L' := [(0, .inr (.inr (.inl (some (1, t))))), (1, .inr (.inl v)), (3, .inl y), (4, .inl u)]) (st' := [.inl (((zlim t : Nat) : Int)), .inl (m.1 1 t 1)]) (m' := m) (o := some ((t < 171) ∧ (t < 171) ∧ (t < 171))) rfl (show (t < 171) ∧ (t < 171) ∧ (t < 171) from by omega) ?_
      refine ww_ic (t := 62) rfl rfl (by omega) (fun (h3 : ((zlim t : Nat) : Int) ≤ m.1 1 t 1) => ?_) (fun (h3 : ¬ (((zlim t : Nat) : Int) ≤ m.1 1 t 1)) => ?_)
      · show wW (zK sc) zM26 62 [(0, .inr (.inr (.inl (some (1, t))))), (1, .inr (.inl v)), (3, .inl y), (4, .inl u)] [] _ _ _
        exact ww_rV rfl rfl ⟨rfl, rfl, zB_mono hGm (by omega), hFm, ⟨by omega, fun z1 z2 => (by have z9 := ha z1; rw [show u = y from by omega] at z9; exact zApu_d z9)⟩⟩
      · show wW (zK sc) zM26 21 [(0, .inr (.inr (.inl (some (1, t))))), (1, .inr (.inl v)), (3, .inl y), (4, .inl u)] [] _ _ _
        have b4 : 0 ≤ m.1 1 t 1 ∧ m.1 1 t 1 ≤ (zlim t : Nat) := hGm.1 1 _ rfl _ _
        have t5 := wl2i_rg ((v.toUInt64 >>> ((wi2l (8 * ((y - 1) - u))).toUInt64 &&& Int64.toUInt64 63)).toInt64)
        have t6 := wand_rg (wl2i ((v.toUInt64 >>> ((wi2l (8 * ((y - 1) - u))).toUInt64 &&& Int64.toUInt64 63)).toInt64)) 255
        have t7 := wand_m255 (wl2i ((v.toUInt64 >>> ((wi2l (8 * ((y - 1) - u))).toUInt64 &&& Int64.toUInt64 63)).toInt64))
        refine ww_go 17 (pc' := 46) (L' := [(0, .inr (.inr (.inl (some (1, t))))), (1, .inr (.inl v)), (3, .inl y), (4, .inl u)]) (st' := []) (m' := wuI m 2 t ((m.1 1 t 1).toNat) (wand (wl2i ((v.toUInt64 >>> ((wi2l (8 * ((y - 1) - u))).toUInt64 &&& Int64.toUInt64 63)).toInt64)) 255)) (o := some ((t < 171) ∧ (t < 171) ∧ (t < 171 ∧ 0 ≤ m.1 1 t 1 ∧ m.1 1 t 1 < ((zlim t : Nat) : Int)))) rfl (show (t < 171) ∧ (t < 171) ∧ (t < 171 ∧ 0 ≤ m.1 1 t 1 ∧ m.1 1 t 1 < ((zlim t : Nat) : Int)) from by omega) ?_
        obtain ⟨m8, hm8⟩ : ∃ zq9 : wm, zq9 = wuI m 2 t ((m.1 1 t 1).toNat) (wand (wl2i ((v.toUInt64 >>> ((wi2l (8 * ((y - 1) - u))).toUInt64 &&& Int64.toUInt64 63)).toInt64)) 255) := ⟨_, rfl⟩
        rw [← hm8]
        have hGm8 : zB c m8 := by rw [hm8]; exact zB_wI rfl (show 0 ≤ wand (wl2i ((v.toUInt64 >>> ((wi2l (8 * ((y - 1) - u))).toUInt64 &&& Int64.toUInt64 63)).toInt64)) 255 ∧ wand (wl2i ((v.toUInt64 >>> ((wi2l (8 * ((y - 1) - u))).toUInt64 &&& Int64.toUInt64 63)).toInt64)) 255 ≤ 255 from by omega) hGm
        have hFm8 : zfr (fun k i j => (k = 1 ∧ i = t ∧ j = 1) ∨ (k = 2 ∧ i = t)) m0 m8 := by rw [hm8]; exact zfr_wI hFm (show (2 = 1 ∧ t = t ∧ ((m.1 1 t 1).toNat) = 1) ∨ (2 = 2 ∧ t = t) from Or.inr (⟨rfl, rfl⟩))
        have s9 : m8.1 2 t ((m.1 1 t 1).toNat) = wand (wl2i ((v.toUInt64 >>> ((wi2l (8 * ((y - 1) - u))).toUInt64 &&& Int64.toUInt64 63)).toInt64)) 255 := by rw [hm8]; exact wuI_self
        have w10 : m8.1 1 t 1 = m.1 1 t 1 := by rw [hm8]; rfl
        have b11 : 0 ≤ m8.1 1 t 1 ∧ m8.1 1 t 1 ≤ (zlim t : Nat) := hGm8.1 1 _ rfl _ _
        refine ww_go 6 (pc' := 56) (L' := [(0, .inr (.inr (.inl (some (1, t))))), (1, .inr (.inl v)), (3, .inl y), (4, .inl u)]) (st' := []) (m' := wuI m8 1 t 1 ((m8.1 1 t 1) + 1)) (o := some ((t < 171) ∧ (t < 171))) rfl (show (t < 171) ∧ (t < 171) from by omega) ?_
        obtain ⟨m12, hm12⟩ : ∃ zq9 : wm, zq9 = wuI m8 1 t 1 ((m8.1 1 t 1) + 1) := ⟨_, rfl⟩
        rw [← hm12]
        have hGm12 : zB c m12 := by rw [hm12]; exact zB_wI rfl (show 0 ≤ (m8.1 1 t 1) + 1 ∧ (m8.1 1 t 1) + 1 ≤ (zlim t : Nat) from by omega) hGm8
        have hFm12 : zfr (fun k i j => (k = 1 ∧ i = t ∧ j = 1) ∨ (k = 2 ∧ i = t)) m0 m12 := by rw [hm12]; exact zfr_wI hFm8 (show (1 = 1 ∧ t = t ∧ 1 = 1) ∨ (1 = 2 ∧ t = t) from Or.inl ((show (1 = 1 ∧ t = t ∧ 1 = 1) from by omega)))
        have s13 : m12.1 1 t 1 = (m8.1 1 t 1) + 1 := by rw [hm12]; exact wuI_self
        refine ww_go 2 (pc' := 3) (L' := [(4, .inl (u + 1)), (0, .inr (.inr (.inl (some (1, t))))), (1, .inr (.inl v)), (3, .inl y)]) (st' := []) (m' := m12) (o := none) rfl trivial ?_
        refine ww_sub (L := [(0, .inr (.inr (.inl (some (1, t))))), (1, .inr (.inl v)), (3, .inl y), (4, .inl (u + 1))]) ⟨rfl, rfl, rfl, rfl, trivial⟩ rfl rfl ?_
        exact (ih _ (by omega)) (u + 1) m12 rfl (zB_mono hGm12 (by omega)) hFm12 (by omega) (by exact fun z => (by rw [hm12]; show zApu (m8.1 2 t) _ _ _ _ _; rw [hm8]; exact zApu_s (ha z) (by omega) (by omega) (by omega) (zb8_eq v _ (by omega) (by omega) (by omega))))
set_option maxRecDepth 8000 in
/-- Bytes.append -/
theorem zs26 {sc : xSc} {n : Nat × Nat} {m0 : wm} {c : Int} (hc : 0 ≤ c ∧ c ≤ 1000000) (v : Int64) (y : Int) (t : Nat) (hG : zB c m0) (h0 : t < 171 ∧ 0 ≤ y ∧ y ≤ 1000000) : wX (zK sc) 26 [.inr (.inr (.inl (some (1, t)))), .inr (.inl v), .inl y] n m0 (wr (fun vv n1 m1 => vv = none ∧ n = n1 ∧ zB c m1 ∧ zfr (fun k i j => (k = 1 ∧ i = t ∧ j = 1) ∨ (k = 2 ∧ i = t)) m0 m1 ∧ (m1.1 1 t 1 = min (m0.1 1 t 1 + y) ((zlim t : Nat) : Int) ∧ (y ≤ 8 → m0.1 1 t 1 + y ≤ ((zlim t : Nat) : Int) → zApd (m1.1 2 t) (m0.1 2 t) (m0.1 1 t 1) y v)))) := by
  refine wX_of (N := zM26) rfl (Nat.le_of_ble_eq_true rfl) ?_
  show wW (zK sc) zM26 0 [(0, .inr (.inr (.inl (some (1, t))))), (1, .inr (.inl v)), (3, .inl y)] [] n m0 _
  have hF : zfr (fun k i j => (k = 1 ∧ i = t ∧ j = 1) ∨ (k = 2 ∧ i = t)) m0 m0 := zfr_rf
  have zl1 := zlim_le t
  have q1 : 0 ≤ m0.1 1 t 1 ∧ m0.1 1 t 1 ≤ ((zlim t : Nat) : Int) := hG.1 1 _ rfl _ _
  refine ww_go 2 (pc' := 3) (L' := [(4, .inl 0), (0, .inr (.inr (.inl (some (1, t))))), (1, .inr (.inl v)), (3, .inl y)]) (st' := []) (m' := m0) (o := none) rfl trivial ?_
  refine ww_sub (L := [(0, .inr (.inr (.inl (some (1, t))))), (1, .inr (.inl v)), (3, .inl y), (4, .inl 0)]) ⟨rfl, rfl, rfl, rfl, trivial⟩ rfl rfl ?_
  exact (zs26_l3 hc v y t hG h0 _) 0 m0 rfl (zB_mono hG (by omega)) hF (by omega) (by exact fun _ => zApu_0)
set_option maxRecDepth 8000 in
theorem zs27_l2 {sc : xSc} {n : Nat × Nat} {m0 : wm} {c : Int} (hc : 0 ≤ c ∧ c ≤ 1000000) (t : Nat) (s : Nat) (hG : zB c m0) (h0 : t < 171 ∧ s < 171) : ∀ (d : Nat), ∀ (u : Int) (m : wm), (104 - u).toNat = d → zB c m → zfr (fun k i j => (k = 1 ∧ i = t ∧ j = 1) ∨ (k = 2 ∧ i = t)) m0 m → (0 ≤ u ∧ u ≤ 104) → (t ≠ s → ∀ l, zBR m0 t = zLs l → m0.1 1 t 1 + m0.1 1 s 1 ≤ ((zlim t : Nat) : Int) → zBR m t = zLs (l ++ (List.range u.toNat).map (zBR m0 s).2) ∧ m.1 1 t 1 = m0.1 1 t 1 + u ∧ u ≤ m0.1 1 s 1) →  wW (zK sc) zM27 2 [(0, .inr (.inr (.inl (some (1, t))))), (1, .inr (.inr (.inl (some (1, s))))), (2, .inl u)] [] n m (wr (fun vv n1 m1 => vv = none ∧ n = n1 ∧ zB c m1 ∧ zfr (fun k i j => (k = 1 ∧ i = t ∧ j = 1) ∨ (k = 2 ∧ i = t)) m0 m1 ∧ (t ≠ s → ∀ l, zBR m0 t = zLs l → m0.1 1 t 1 + m0.1 1 s 1 ≤ ((zlim t : Nat) : Int) → zBR m1 t = zLs (l ++ zbs (zBR m0 s)) ∧ m1.1 1 t 1 = m0.1 1 t 1 + m0.1 1 s 1))) := by
  intro d
  induction d using Nat.strongRecOn with
  | ind d ih =>
    intro u m hd hGm hFm hi ha
    have zl1 := zlim_le t
    have zl2 := zlim_le s
    have q1 : 0 ≤ m0.1 1 s 1 ∧ m0.1 1 s 1 ≤ ((zlim s : Nat) : Int) := hG.1 1 _ rfl _ _
    have b1 : 0 ≤ m.1 1 s 1 ∧ m.1 1 s 1 ≤ (zlim s : Nat) := hGm.1 1 _ rfl _ _
    refine ww_go 3 (pc' := 7) (L' := [(0, .inr (.inr (.inl (some (1, t))))), (1, .inr (.inr (.inl (some (1, s))))), (2, .inl u)]) (st' := [.inl (m.1 1 s 1), .inl u]) (m' := m) (o := some ((s < 171))) rfl (show (s < 171) from by omega) ?_
    refine ww_ic (t := 27) rfl rfl (by omega) (fun (h2 : m.1 1 s 1 ≤ u) => ?_) (fun (h2 : ¬ (m.1 1 s 1 ≤ u)) => ?_)
    · show wW (zK sc) zM27 27 [(0, .inr (.inr (.inl (some (1, t))))), (1, .inr (.inr (.inl (some (1, s))))), (2, .inl u)] [] _ _ _
      exact ww_rV rfl rfl ⟨rfl, rfl, zB_mono hGm (by omega), hFm, fun z1 l z2 z3 => (by have z4 := ha z1 l z2 z3; have z5 := (hFm 1 s 1 (show ¬ ((1 = 1 ∧ s = t ∧ 1 = 1) ∨ (1 = 2 ∧ s = t)) from by omega)).1; rw [show u = m0.1 1 s 1 from by omega] at z4; exact ⟨z4.1, z4.2.1⟩)⟩
    · show wW (zK sc) zM27 10 [(0, .inr (.inr (.inl (some (1, t))))), (1, .inr (.inr (.inl (some (1, s))))), (2, .inl u)] [] _ _ _
      refine ww_go 3 (pc' := 13) (L' := [(0, .inr (.inr (.inl (some (1, t))))), (1, .inr (.inr (.inl (some (1, s))))), (2, .inl u)]) (st' := [.inl u, .inr (.inr (.inl (some (1, s)))), .inr (.inr (.inl (some (1, t))))]) (m' := m) (o := none) rfl trivial ?_
      refine ww_call (vs := [.inr (.inr (.inl (some (1, s)))), .inl u]) (r := [.inr (.inr (.inl (some (1, t))))]) (p := s < 171) rfl rfl rfl rfl (show s < 171 from by omega) (zs28 (c := c) (by omega) u s hGm (by omega)) ?_
      rintro _ _ _ ⟨r3, rfl, rfl, rfl, hr4⟩
      show wW (zK sc) zM27 16 [(0, .inr (.inr (.inl (some (1, t))))), (1, .inr (.inr (.inl (some (1, s))))), (2, .inl u)] [.inl r3, .inr (.inr (.inl (some (1, t))))] _ _ _
      refine ww_go 2 (pc' := 18) (L' := [(0, .inr (.inr (.inl (some (1, t))))), (1, .inr (.inr (.inl (some (1, s))))), (2, .inl u)]) (st' := [.inl 1, .inr (.inl (wi2l r3)), .inr (.inr (.inl (some (1, t))))]) (m' := m) (o := none) rfl trivial ?_
      refine ww_call (vs := [.inr (.inr (.inl (some (1, t)))), .inr (.inl (wi2l r3)), .inl 1]) (r := []) (p := t < 171) rfl rfl rfl rfl (show t < 171 from by omega) (zs26 (c := c) (by omega) (wi2l r3) 1 t hGm (by omega)) ?_
      rintro _ _ m7 ⟨rfl, rfl, hGm7, hEm7, hr6⟩
      have hFm7 : zfr (fun k i j => (k = 1 ∧ i = t ∧ j = 1) ∨ (k = 2 ∧ i = t)) m0 m7 := zfr_tr hFm hEm7 (fun k i j z => Or.elim z (fun z => Or.inl z) (fun z => Or.inr (z)))
      show wW (zK sc) zM27 21 [(0, .inr (.inr (.inl (some (1, t))))), (1, .inr (.inr (.inl (some (1, s))))), (2, .inl u)] [] _ _ _
      refine ww_go 2 (pc' := 2) (L' := [(2, .inl (u + 1)), (0, .inr (.inr (.inl (some (1, t))))), (1, .inr (.inr (.inl (some (1, s)))))]) (st' := []) (m' := m7) (o := none) rfl trivial ?_
      refine ww_sub (L := [(0, .inr (.inr (.inl (some (1, t))))), (1, .inr (.inr (.inl (some (1, s))))), (2, .inl (u + 1))]) ⟨rfl, rfl, rfl, trivial⟩ rfl rfl ?_
      exact (ih _ (by omega)) (u + 1) m7 rfl (zB_mono hGm7 (by omega)) hFm7 (by omega) (by exact fun z1 l z2 z3 => (by have z4 := ha z1 l z2 z3; have z5 := (hFm 1 s 1 (show ¬ ((1 = 1 ∧ s = t ∧ 1 = 1) ∨ (1 = 2 ∧ s = t)) from by omega)).1; have z6 : zBR m s = zBR m0 s := zBR_fr hFm (show ¬ ((1 = 1 ∧ s = t ∧ 1 = 1) ∨ (1 = 2 ∧ s = t)) from by omega) (fun j => (show ¬ ((2 = 1 ∧ s = t ∧ j = 1) ∨ (2 = 2 ∧ s = t)) from by omega)); have z7 : r3 = (zBR m0 s).2 u.toNat := (by rw [hr4.1, zBR_at (by omega), z6]); exact ⟨zLs_aa z4.1 (hr6.2 (by omega) (by omega)) (by omega) z7 (by omega) (by omega) (by omega), by omega, by omega⟩))
set_option maxRecDepth 8000 in
/-- Bytes.appendAll -/
theorem zs27 {sc : xSc} {n : Nat × Nat} {m0 : wm} {c : Int} (hc : 0 ≤ c ∧ c ≤ 1000000) (t : Nat) (s : Nat) (hG : zB c m0) (h0 : t < 171 ∧ s < 171) : wX (zK sc) 27 [.inr (.inr (.inl (some (1, t)))), .inr (.inr (.inl (some (1, s))))] n m0 (wr (fun vv n1 m1 => vv = none ∧ n = n1 ∧ zB c m1 ∧ zfr (fun k i j => (k = 1 ∧ i = t ∧ j = 1) ∨ (k = 2 ∧ i = t)) m0 m1 ∧ (t ≠ s → ∀ l, zBR m0 t = zLs l → m0.1 1 t 1 + m0.1 1 s 1 ≤ ((zlim t : Nat) : Int) → zBR m1 t = zLs (l ++ zbs (zBR m0 s)) ∧ m1.1 1 t 1 = m0.1 1 t 1 + m0.1 1 s 1))) := by
  refine wX_of (N := zM27) rfl (Nat.le_of_ble_eq_true rfl) ?_
  show wW (zK sc) zM27 0 [(0, .inr (.inr (.inl (some (1, t))))), (1, .inr (.inr (.inl (some (1, s)))))] [] n m0 _
  have hF : zfr (fun k i j => (k = 1 ∧ i = t ∧ j = 1) ∨ (k = 2 ∧ i = t)) m0 m0 := zfr_rf
  have zl1 := zlim_le t
  have zl2 := zlim_le s
  have q1 : 0 ≤ m0.1 1 s 1 ∧ m0.1 1 s 1 ≤ ((zlim s : Nat) : Int) := hG.1 1 _ rfl _ _
  refine ww_go 2 (pc' := 2) (L' := [(2, .inl 0), (0, .inr (.inr (.inl (some (1, t))))), (1, .inr (.inr (.inl (some (1, s)))))]) (st' := []) (m' := m0) (o := none) rfl trivial ?_
  refine ww_sub (L := [(0, .inr (.inr (.inl (some (1, t))))), (1, .inr (.inr (.inl (some (1, s))))), (2, .inl 0)]) ⟨rfl, rfl, rfl, trivial⟩ rfl rfl ?_
  exact (zs27_l2 hc t s hG h0 _) 0 m0 rfl (zB_mono hG (by omega)) hF (by omega) (by exact fun _ l z _ => ⟨by rw [z]; exact congrArg zLs (List.append_nil l).symm, by omega, by omega⟩)
set_option maxRecDepth 8000 in
/-- Bytes.copyFrom -/
theorem zs32 {sc : xSc} {n : Nat × Nat} {m0 : wm} {c : Int} (hc : 0 ≤ c ∧ c ≤ 1000000) (t : Nat) (s : Nat) (hG : zB c m0) (h0 : t < 171 ∧ s < 171) : wX (zK sc) 32 [.inr (.inr (.inl (some (1, t)))), .inr (.inr (.inl (some (1, s))))] n m0 (wr (fun vv n1 m1 => vv = none ∧ n = n1 ∧ zB c m1 ∧ zfr (fun k i j => (k = 1 ∧ i = t ∧ j = 1) ∨ (k = 2 ∧ i = t)) m0 m1 ∧ (m1.1 1 t 1 = min (m0.1 1 s 1) ((zlim t : Nat) : Int) ∧ (m0.1 1 s 1 ≤ ((zlim t : Nat) : Int) → zBR m1 t = zBR m0 s)))) := by
  refine wX_of (N := zM32) rfl (Nat.le_of_ble_eq_true rfl) ?_
  show wW (zK sc) zM32 0 [(0, .inr (.inr (.inl (some (1, t))))), (1, .inr (.inr (.inl (some (1, s)))))] [] n m0 _
  have hF : zfr (fun k i j => (k = 1 ∧ i = t ∧ j = 1) ∨ (k = 2 ∧ i = t)) m0 m0 := zfr_rf
  have zl1 := zlim_le t
  have zl2 := zlim_le s
  have q1 : 0 ≤ m0.1 1 s 1 ∧ m0.1 1 s 1 ≤ ((zlim s : Nat) : Int) := hG.1 1 _ rfl _ _
  have b1 : 0 ≤ m0.1 1 s 1 ∧ m0.1 1 s 1 ≤ (zlim s : Nat) := hG.1 1 _ rfl _ _
  refine ww_go 3 (pc' := 5) (L' := [(0, .inr (.inr (.inl (some (1, t))))), (1, .inr (.inr (.inl (some (1, s)))))]) (st' := [.inl (m0.1 1 s 1), .inr (.inr (.inl (some (1, t))))]) (m' := m0) (o := some ((s < 171))) rfl (show (s < 171) from by omega) ?_
  refine ww_call (vs := [.inr (.inr (.inl (some (1, t)))), .inl (m0.1 1 s 1)]) (r := []) (p := t < 171) rfl rfl rfl rfl (show t < 171 from by omega) (zs39 (c := c) (by omega) (m0.1 1 s 1) t hG (by omega)) ?_
  rintro _ _ m4 ⟨rfl, rfl, hGm4, hEm4, hr3⟩
  have hFm4 : zfr (fun k i j => (k = 1 ∧ i = t ∧ j = 1) ∨ (k = 2 ∧ i = t)) m0 m4 := zfr_tr hF hEm4 (fun k i j z => Or.inl z)
  show wW (zK sc) zM32 8 [(0, .inr (.inr (.inl (some (1, t))))), (1, .inr (.inr (.inl (some (1, s)))))] [] _ _ _
  have b5 : 0 ≤ m4.1 1 t 1 ∧ m4.1 1 t 1 ≤ (zlim t : Nat) := hGm4.1 1 _ rfl _ _
  refine ww_go 9 (pc' := 25) (L' := [(0, .inr (.inr (.inl (some (1, t))))), (1, .inr (.inr (.inl (some (1, s)))))]) (st' := []) (m' := wcp m4 2 s 0 2 t 0 ((m4.1 1 t 1).toNat)) (o := some ((s < 171) ∧ (t < 171) ∧ (t < 171) ∧ (s < 171 ∧ t < 171 ∧ 0 ≤ m4.1 1 t 1 ∧ 0 ≤ (0 : Int) ∧ 0 ≤ (0 : Int) ∧ 0 + (m4.1 1 t 1) ≤ ((zlim s : Nat) : Int) ∧ 0 + (m4.1 1 t 1) ≤ ((zlim t : Nat) : Int)))) rfl (show (s < 171) ∧ (t < 171) ∧ (t < 171) ∧ (s < 171 ∧ t < 171 ∧ 0 ≤ m4.1 1 t 1 ∧ 0 ≤ (0 : Int) ∧ 0 ≤ (0 : Int) ∧ 0 + (m4.1 1 t 1) ≤ ((zlim s : Nat) : Int) ∧ 0 + (m4.1 1 t 1) ≤ ((zlim t : Nat) : Int)) from by omega) ?_
  obtain ⟨m6, hm6⟩ : ∃ zq9 : wm, zq9 = wcp m4 2 s 0 2 t 0 ((m4.1 1 t 1).toNat) := ⟨_, rfl⟩
  rw [← hm6]
  have hGm6 : zB c m6 := by rw [hm6]; exact zB_cp rfl rfl hGm4
  have hFm6 : zfr (fun k i j => (k = 1 ∧ i = t ∧ j = 1) ∨ (k = 2 ∧ i = t)) m0 m6 := by rw [hm6]; exact zfr_cp hFm4 (fun j => (show (2 = 1 ∧ t = t ∧ j = 1) ∨ (2 = 2 ∧ t = t) from by omega))
  have w7 : m6.1 1 t 1 = m4.1 1 t 1 := by rw [hm6]; rfl
  exact ww_rV rfl rfl ⟨rfl, rfl, zB_mono hGm6 (by omega), hFm6, ⟨by omega, fun z1 => (by rw [hm6]; exact zBR_cp hEm4 (fun k i j z => by have z9 : (k = 1 ∧ i = t ∧ j = 1) := z; omega) (by omega) (by omega))⟩⟩
set_option maxRecDepth 8000 in
theorem zs33_l7 {sc : xSc} {n : Nat × Nat} {m : wm} {c : Int} (hc : 0 ≤ c ∧ c ≤ 1000000) (y : Int) (t : Nat) (hG : zB c m) (h0 : t < 171 ∧ 0 ≤ y ∧ y ≤ 1000) : ∀ (d : Nat), ∀ (w : Int64) (u : Int), (y - u).toNat = d → (0 ≤ u ∧ u ≤ y) → (w = zhh (zBR m t).2 u.toNat) →  wW (zK sc) zM33 7 [(0, .inr (.inr (.inl (some (1, t))))), (1, .inl y), (2, .inr (.inl w)), (4, .inl u)] [] n m (wr (fun vv n1 m1 => ∃ r : Int64, vv = some (.inr (.inl r)) ∧ n = n1 ∧ m = m1 ∧ (r = zhh (zBR m t).2 y.toNat))) := by
  intro d
  induction d using Nat.strongRecOn with
  | ind d ih =>
    intro w u hd hi hw
    refine ww_go 2 (pc' := 10) (L' := [(0, .inr (.inr (.inl (some (1, t))))), (1, .inl y), (2, .inr (.inl w)), (4, .inl u)]) (st' := [.inl y, .inl u]) (m' := m) (o := none) rfl trivial ?_
    refine ww_ic (t := 33) rfl rfl (by omega) (fun (h1 : y ≤ u) => ?_) (fun (h1 : ¬ (y ≤ u)) => ?_)
    · show wW (zK sc) zM33 33 [(0, .inr (.inr (.inl (some (1, t))))), (1, .inl y), (2, .inr (.inl w)), (4, .inl u)] [] _ _ _
      refine ww_go 1 (pc' := 34) (L' := [(0, .inr (.inr (.inl (some (1, t))))), (1, .inl y), (2, .inr (.inl w)), (4, .inl u)]) (st' := [.inr (.inl w)]) (m' := m) (o := none) rfl trivial ?_
      exact ww_rL rfl rfl ⟨_, rfl, rfl, rfl, by (rw [show y = u from by omega]; exact hw)⟩
    · show wW (zK sc) zM33 13 [(0, .inr (.inr (.inl (some (1, t))))), (1, .inl y), (2, .inr (.inl w)), (4, .inl u)] [] _ _ _
      refine ww_go 3 (pc' := 17) (L' := [(0, .inr (.inr (.inl (some (1, t))))), (1, .inl y), (2, .inr (.inl w)), (4, .inl u)]) (st' := [.inl u, .inr (.inr (.inl (some (1, t)))), .inr (.inl w)]) (m' := m) (o := none) rfl trivial ?_
      refine ww_call (vs := [.inr (.inr (.inl (some (1, t)))), .inl u]) (r := [.inr (.inl w)]) (p := t < 171) rfl rfl rfl rfl (show t < 171 from by omega) (zs28 (c := c) (by omega) u t hG (by omega)) ?_
      rintro _ _ _ ⟨r2, rfl, rfl, rfl, hr3⟩
      show wW (zK sc) zM33 20 [(0, .inr (.inr (.inl (some (1, t))))), (1, .inl y), (2, .inr (.inl w)), (4, .inl u)] [.inl r2, .inr (.inl w)] _ _ _
      refine ww_go 7 (pc' := 7) (L' := [(4, .inl (u + 1)), (2, .inr (.inl ((w ^^^ (wi2l r2)) * (Int64.ofInt 1099511628211)))), (0, .inr (.inr (.inl (some (1, t))))), (1, .inl y)]) (st' := []) (m' := m) (o := none) rfl trivial ?_
      refine ww_sub (L := [(0, .inr (.inr (.inl (some (1, t))))), (1, .inl y), (2, .inr (.inl ((w ^^^ (wi2l r2)) * (Int64.ofInt 1099511628211)))), (4, .inl (u + 1))]) ⟨rfl, rfl, rfl, rfl, trivial⟩ rfl rfl ?_
      exact (ih _ (by omega)) ((w ^^^ (wi2l r2)) * (Int64.ofInt 1099511628211)) (u + 1) rfl (by omega) (by rw [hw, hr3.1, zBR_at (by omega), show (u + 1).toNat = u.toNat + 1 from by omega]; rfl)
set_option maxRecDepth 8000 in
/-- Bytes.hash -/
theorem zs33 {sc : xSc} {n : Nat × Nat} {m : wm} {c : Int} (hc : 0 ≤ c ∧ c ≤ 1000000) (y : Int) (t : Nat) (hG : zB c m) (h0 : t < 171 ∧ 0 ≤ y ∧ y ≤ 1000) : wX (zK sc) 33 [.inr (.inr (.inl (some (1, t)))), .inl y] n m (wr (fun vv n1 m1 => ∃ r : Int64, vv = some (.inr (.inl r)) ∧ n = n1 ∧ m = m1 ∧ (r = zhh (zBR m t).2 y.toNat))) := by
  refine wX_of (N := zM33) rfl (Nat.le_of_ble_eq_true rfl) ?_
  show wW (zK sc) zM33 0 [(0, .inr (.inr (.inl (some (1, t))))), (1, .inl y)] [] n m _
  refine ww_go 4 (pc' := 7) (L' := [(4, .inl 0), (2, .inr (.inl (Int64.ofInt (-3750763034362895579)))), (0, .inr (.inr (.inl (some (1, t))))), (1, .inl y)]) (st' := []) (m' := m) (o := none) rfl trivial ?_
  refine ww_sub (L := [(0, .inr (.inr (.inl (some (1, t))))), (1, .inl y), (2, .inr (.inl (Int64.ofInt (-3750763034362895579)))), (4, .inl 0)]) ⟨rfl, rfl, rfl, rfl, trivial⟩ rfl rfl ?_
  exact (zs33_l7 hc y t hG h0 _) (Int64.ofInt (-3750763034362895579)) 0 rfl (by omega) (by rfl)
set_option maxRecDepth 8000 in
theorem zs34_l15 {sc : xSc} {n : Nat × Nat} {m : wm} {c : Int} (hc : 0 ≤ c ∧ c ≤ 1000000) (x : Int) (y : Int) (t : Nat) (hG : zB c m) (h0 : t < 171 ∧ -1000000 ≤ x ∧ x ≤ 1000000 ∧ -2147483648 ≤ y ∧ y ≤ 2147483647) : ∀ (d : Nat), ∀ (u : Int), (x + y - u).toNat = d → (1 ≤ y ∧ y ≤ 6 ∧ x ≤ u ∧ u ≤ x + y) → (∀ q : Nat, x + (q : Int) < u → 33 ≤ zBat m t (x + (q : Int)) ∧ zBat m t (x + (q : Int)) ≤ 126) →  wW (zK sc) zM34 15 [(0, .inr (.inr (.inl (some (1, t))))), (1, .inl x), (2, .inl y), (3, .inl u)] [] n m (wr (fun vv n1 m1 => ∃ r : Int, vv = some (.inl r) ∧ n = n1 ∧ m = m1 ∧ ((r = 1 ∧ zNx m t x y) ∨ (r = 0 ∧ ¬ zNx m t x y)))) := by
  intro d
  induction d using Nat.strongRecOn with
  | ind d ih =>
    intro u hd hi hn
    refine ww_go 4 (pc' := 19) (L' := [(0, .inr (.inr (.inl (some (1, t))))), (1, .inl x), (2, .inl y), (3, .inl u)]) (st' := [.inl (x + y), .inl u]) (m' := m) (o := none) rfl trivial ?_
    refine ww_ic (t := 50) rfl rfl (by omega) (fun (h1 : x + y ≤ u) => ?_) (fun (h1 : ¬ (x + y ≤ u)) => ?_)
    · show wW (zK sc) zM34 50 [(0, .inr (.inr (.inl (some (1, t))))), (1, .inl x), (2, .inl y), (3, .inl u)] [] _ _ _
      refine ww_go 1 (pc' := 51) (L' := [(0, .inr (.inr (.inl (some (1, t))))), (1, .inl x), (2, .inl y), (3, .inl u)]) (st' := [.inl 1]) (m' := m) (o := none) rfl trivial ?_
      exact ww_rB rfl rfl (by omega) ⟨_, rfl, rfl, rfl, by (exact Or.inl ⟨rfl, by omega, by omega, fun q hq => hn q (by omega)⟩)⟩
    · show wW (zK sc) zM34 22 [(0, .inr (.inr (.inl (some (1, t))))), (1, .inl x), (2, .inl y), (3, .inl u)] [] _ _ _
      refine ww_go 2 (pc' := 24) (L' := [(0, .inr (.inr (.inl (some (1, t))))), (1, .inl x), (2, .inl y), (3, .inl u)]) (st' := [.inl u, .inr (.inr (.inl (some (1, t))))]) (m' := m) (o := none) rfl trivial ?_
      refine ww_call (vs := [.inr (.inr (.inl (some (1, t)))), .inl u]) (r := []) (p := t < 171) rfl rfl rfl rfl (show t < 171 from by omega) (zs28 (c := c) (by omega) u t hG (by omega)) ?_
      rintro _ _ _ ⟨r2, rfl, rfl, rfl, hr3⟩
      show wW (zK sc) zM34 27 [(0, .inr (.inr (.inl (some (1, t))))), (1, .inl x), (2, .inl y), (3, .inl u)] [.inl r2] _ _ _
      refine ww_go 1 (pc' := 29) (L' := [(0, .inr (.inr (.inl (some (1, t))))), (1, .inl x), (2, .inl y), (3, .inl u)]) (st' := [.inl 33, .inl r2]) (m' := m) (o := none) rfl trivial ?_
      refine ww_ic (t := 42) rfl rfl (by omega) (fun (h4 : r2 < 33) => ?_) (fun (h4 : ¬ (r2 < 33)) => ?_)
      · show wW (zK sc) zM34 42 [(0, .inr (.inr (.inl (some (1, t))))), (1, .inl x), (2, .inl y), (3, .inl u)] [] _ _ _
        refine ww_go 1 (pc' := 43) (L' := [(0, .inr (.inr (.inl (some (1, t))))), (1, .inl x), (2, .inl y), (3, .inl u)]) (st' := [.inl 0]) (m' := m) (o := none) rfl trivial ?_
        exact ww_rB rfl rfl (by omega) ⟨_, rfl, rfl, rfl, by (exact Or.inr ⟨rfl, fun z => (by have z9 := z.2.2 (u - x).toNat (by omega); rw [show x + (((u - x).toNat : Nat) : Int) = u from by omega] at z9; omega)⟩)⟩
      · show wW (zK sc) zM34 32 [(0, .inr (.inr (.inl (some (1, t))))), (1, .inl x), (2, .inl y), (3, .inl u)] [] _ _ _
        refine ww_go 2 (pc' := 34) (L' := [(0, .inr (.inr (.inl (some (1, t))))), (1, .inl x), (2, .inl y), (3, .inl u)]) (st' := [.inl u, .inr (.inr (.inl (some (1, t))))]) (m' := m) (o := none) rfl trivial ?_
        refine ww_call (vs := [.inr (.inr (.inl (some (1, t)))), .inl u]) (r := []) (p := t < 171) rfl rfl rfl rfl (show t < 171 from by omega) (zs28 (c := c) (by omega) u t hG (by omega)) ?_
        rintro _ _ _ ⟨r5, rfl, rfl, rfl, hr6⟩
        show wW (zK sc) zM34 37 [(0, .inr (.inr (.inl (some (1, t))))), (1, .inl x), (2, .inl y), (3, .inl u)] [.inl r5] _ _ _
        refine ww_go 1 (pc' := 39) (L' := [(0, .inr (.inr (.inl (some (1, t))))), (1, .inl x), (2, .inl y), (3, .inl u)]) (st' := [.inl 126, .inl r5]) (m' := m) (o := none) rfl trivial ?_
        refine ww_ic (t := 44) rfl rfl (by omega) (fun (h7 : r5 ≤ 126) => ?_) (fun (h7 : ¬ (r5 ≤ 126)) => ?_)
        · show wW (zK sc) zM34 44 [(0, .inr (.inr (.inl (some (1, t))))), (1, .inl x), (2, .inl y), (3, .inl u)] [] _ _ _
          refine ww_go 2 (pc' := 15) (L' := [(3, .inl (u + 1)), (0, .inr (.inr (.inl (some (1, t))))), (1, .inl x), (2, .inl y)]) (st' := []) (m' := m) (o := none) rfl trivial ?_
          refine ww_sub (L := [(0, .inr (.inr (.inl (some (1, t))))), (1, .inl x), (2, .inl y), (3, .inl (u + 1))]) ⟨rfl, rfl, rfl, rfl, trivial⟩ rfl rfl ?_
          exact (ih _ (by omega)) (u + 1) rfl (by omega) (by exact fun q hq => (Decidable.em (x + (q : Int) < u)).elim (fun z => hn q z) (fun z => (by rw [show x + (q : Int) = u from by omega]; omega)))
        · show wW (zK sc) zM34 42 [(0, .inr (.inr (.inl (some (1, t))))), (1, .inl x), (2, .inl y), (3, .inl u)] [] _ _ _
          refine ww_go 1 (pc' := 43) (L' := [(0, .inr (.inr (.inl (some (1, t))))), (1, .inl x), (2, .inl y), (3, .inl u)]) (st' := [.inl 0]) (m' := m) (o := none) rfl trivial ?_
          exact ww_rB rfl rfl (by omega) ⟨_, rfl, rfl, rfl, by (exact Or.inr ⟨rfl, fun z => (by have z9 := z.2.2 (u - x).toNat (by omega); rw [show x + (((u - x).toNat : Nat) : Int) = u from by omega] at z9; omega)⟩)⟩
set_option maxRecDepth 8000 in
/-- Bytes.isName -/
theorem zs34 {sc : xSc} {n : Nat × Nat} {m : wm} {c : Int} (hc : 0 ≤ c ∧ c ≤ 1000000) (x : Int) (y : Int) (t : Nat) (hG : zB c m) (h0 : t < 171 ∧ -1000000 ≤ x ∧ x ≤ 1000000 ∧ -2147483648 ≤ y ∧ y ≤ 2147483647) : wX (zK sc) 34 [.inr (.inr (.inl (some (1, t)))), .inl x, .inl y] n m (wr (fun vv n1 m1 => ∃ r : Int, vv = some (.inl r) ∧ n = n1 ∧ m = m1 ∧ ((r = 1 ∧ zNx m t x y) ∨ (r = 0 ∧ ¬ zNx m t x y)))) := by
  refine wX_of (N := zM34) rfl (Nat.le_of_ble_eq_true rfl) ?_
  show wW (zK sc) zM34 0 [(0, .inr (.inr (.inl (some (1, t))))), (1, .inl x), (2, .inl y)] [] n m _
  refine ww_go 2 (pc' := 2) (L' := [(0, .inr (.inr (.inl (some (1, t))))), (1, .inl x), (2, .inl y)]) (st' := [.inl 1, .inl y]) (m' := m) (o := none) rfl trivial ?_
  refine ww_ic (t := 11) rfl rfl (by omega) (fun (h1 : y < 1) => ?_) (fun (h1 : ¬ (y < 1)) => ?_)
  · show wW (zK sc) zM34 11 [(0, .inr (.inr (.inl (some (1, t))))), (1, .inl x), (2, .inl y)] [] _ _ _
    refine ww_go 1 (pc' := 12) (L' := [(0, .inr (.inr (.inl (some (1, t))))), (1, .inl x), (2, .inl y)]) (st' := [.inl 0]) (m' := m) (o := none) rfl trivial ?_
    exact ww_rB rfl rfl (by omega) ⟨_, rfl, rfl, rfl, by (exact Or.inr ⟨rfl, fun z => (by have z1 := z.1; have z2 := z.2.1; omega)⟩)⟩
  · show wW (zK sc) zM34 5 [(0, .inr (.inr (.inl (some (1, t))))), (1, .inl x), (2, .inl y)] [] _ _ _
    refine ww_go 2 (pc' := 8) (L' := [(0, .inr (.inr (.inl (some (1, t))))), (1, .inl x), (2, .inl y)]) (st' := [.inl 6, .inl y]) (m' := m) (o := none) rfl trivial ?_
    refine ww_ic (t := 13) rfl rfl (by omega) (fun (h2 : y ≤ 6) => ?_) (fun (h2 : ¬ (y ≤ 6)) => ?_)
    · show wW (zK sc) zM34 13 [(0, .inr (.inr (.inl (some (1, t))))), (1, .inl x), (2, .inl y)] [] _ _ _
      refine ww_go 2 (pc' := 15) (L' := [(3, .inl x), (0, .inr (.inr (.inl (some (1, t))))), (1, .inl x), (2, .inl y)]) (st' := []) (m' := m) (o := none) rfl trivial ?_
      refine ww_sub (L := [(0, .inr (.inr (.inl (some (1, t))))), (1, .inl x), (2, .inl y), (3, .inl x)]) ⟨rfl, rfl, rfl, rfl, trivial⟩ rfl rfl ?_
      exact (zs34_l15 hc x y t hG h0 _) x rfl (by omega) (by exact fun q hq => absurd hq (by omega))
    · show wW (zK sc) zM34 11 [(0, .inr (.inr (.inl (some (1, t))))), (1, .inl x), (2, .inl y)] [] _ _ _
      refine ww_go 1 (pc' := 12) (L' := [(0, .inr (.inr (.inl (some (1, t))))), (1, .inl x), (2, .inl y)]) (st' := [.inl 0]) (m' := m) (o := none) rfl trivial ?_
      exact ww_rB rfl rfl (by omega) ⟨_, rfl, rfl, rfl, by (exact Or.inr ⟨rfl, fun z => (by have z1 := z.1; have z2 := z.2.1; omega)⟩)⟩
set_option maxRecDepth 8000 in
theorem zs31_l11 {sc : xSc} {n : Nat × Nat} {m : wm} {c : Int} (hc : 0 ≤ c ∧ c ≤ 1000000) (x : Int) (y : Int) (u : Int) (v : Int) (t : Nat) (s : Nat) (hG : zB c m) (h0 : t < 171 ∧ s < 171 ∧ -1000000 ≤ x ∧ x ≤ 1000000 ∧ 0 ≤ y ∧ y ≤ 1000000 ∧ -1000000 ≤ u ∧ u ≤ 1000000 ∧ 0 ≤ v ∧ v ≤ 1000000) : ∀ (d : Nat), ∀ (w : Int) (z : Int), (w - z).toNat = d → (0 ≤ w ∧ w ≤ 1000000 ∧ 0 ≤ z ∧ z ≤ w ∧ w = min y v) → (∀ q : Nat, (q : Int) < z → zBat m t (x + (q : Int)) = zBat m s (u + (q : Int))) →  wW (zK sc) zM31 11 [(0, .inr (.inr (.inl (some (1, t))))), (1, .inl x), (2, .inl y), (3, .inr (.inr (.inl (some (1, s))))), (4, .inl u), (5, .inl v), (6, .inl w), (7, .inl z)] [] n m (wr (fun vv n1 m1 => ∃ r : Int, vv = some (.inl r) ∧ n = n1 ∧ m = m1 ∧ ((-1000000 ≤ r ∧ r ≤ 1000000) ∧ zCm (y, fun q : Nat => zBat m t (x + (q : Int))) (v, fun q : Nat => zBat m s (u + (q : Int))) r))) := by
  intro d
  induction d using Nat.strongRecOn with
  | ind d ih =>
    intro w z hd hi hz
    refine ww_go 2 (pc' := 15) (L' := [(0, .inr (.inr (.inl (some (1, t))))), (1, .inl x), (2, .inl y), (3, .inr (.inr (.inl (some (1, s))))), (4, .inl u), (5, .inl v), (6, .inl w), (7, .inl z)]) (st' := [.inl w, .inl z]) (m' := m) (o := none) rfl trivial ?_
    refine ww_ic (t := 52) rfl rfl (by omega) (fun (h1 : w ≤ z) => ?_) (fun (h1 : ¬ (w ≤ z)) => ?_)
    · show wW (zK sc) zM31 52 [(0, .inr (.inr (.inl (some (1, t))))), (1, .inl x), (2, .inl y), (3, .inr (.inr (.inl (some (1, s))))), (4, .inl u), (5, .inl v), (6, .inl w), (7, .inl z)] [] _ _ _
      refine ww_go 3 (pc' := 56) (L' := [(0, .inr (.inr (.inl (some (1, t))))), (1, .inl x), (2, .inl y), (3, .inr (.inr (.inl (some (1, s))))), (4, .inl u), (5, .inl v), (6, .inl w), (7, .inl z)]) (st' := [.inl (y - v)]) (m' := m) (o := none) rfl trivial ?_
      exact ww_rI rfl rfl ⟨_, rfl, rfl, rfl, by (exact ⟨by omega, Or.inr ⟨fun q h1 h2 => hz q (by have h1b : (q : Int) < y := h1; have h2b : (q : Int) < v := h2; omega), rfl⟩⟩)⟩
    · show wW (zK sc) zM31 18 [(0, .inr (.inr (.inl (some (1, t))))), (1, .inl x), (2, .inl y), (3, .inr (.inr (.inl (some (1, s))))), (4, .inl u), (5, .inl v), (6, .inl w), (7, .inl z)] [] _ _ _
      refine ww_go 4 (pc' := 23) (L' := [(0, .inr (.inr (.inl (some (1, t))))), (1, .inl x), (2, .inl y), (3, .inr (.inr (.inl (some (1, s))))), (4, .inl u), (5, .inl v), (6, .inl w), (7, .inl z)]) (st' := [.inl (x + z), .inr (.inr (.inl (some (1, t))))]) (m' := m) (o := none) rfl trivial ?_
      refine ww_call (vs := [.inr (.inr (.inl (some (1, t)))), .inl (x + z)]) (r := []) (p := t < 171) rfl rfl rfl rfl (show t < 171 from by omega) (zs28 (c := c) (by omega) (x + z) t hG (by omega)) ?_
      rintro _ _ _ ⟨r2, rfl, rfl, rfl, hr3⟩
      show wW (zK sc) zM31 26 [(0, .inr (.inr (.inl (some (1, t))))), (1, .inl x), (2, .inl y), (3, .inr (.inr (.inl (some (1, s))))), (4, .inl u), (5, .inl v), (6, .inl w), (7, .inl z)] [.inl r2] _ _ _
      refine ww_go 4 (pc' := 32) (L' := [(0, .inr (.inr (.inl (some (1, t))))), (1, .inl x), (2, .inl y), (3, .inr (.inr (.inl (some (1, s))))), (4, .inl u), (5, .inl v), (6, .inl w), (7, .inl z)]) (st' := [.inl (u + z), .inr (.inr (.inl (some (1, s)))), .inl r2]) (m' := m) (o := none) rfl trivial ?_
      refine ww_call (vs := [.inr (.inr (.inl (some (1, s)))), .inl (u + z)]) (r := [.inl r2]) (p := s < 171) rfl rfl rfl rfl (show s < 171 from by omega) (zs28 (c := c) (by omega) (u + z) s hG (by omega)) ?_
      rintro _ _ _ ⟨r4, rfl, rfl, rfl, hr5⟩
      show wW (zK sc) zM31 35 [(0, .inr (.inr (.inl (some (1, t))))), (1, .inl x), (2, .inl y), (3, .inr (.inr (.inl (some (1, s))))), (4, .inl u), (5, .inl v), (6, .inl w), (7, .inl z)] [.inl r4, .inl r2] _ _ _
      refine ww_go 3 (pc' := 40) (L' := [(8, .inl (r2 - r4)), (0, .inr (.inr (.inl (some (1, t))))), (1, .inl x), (2, .inl y), (3, .inr (.inr (.inl (some (1, s))))), (4, .inl u), (5, .inl v), (6, .inl w), (7, .inl z)]) (st' := [.inl (r2 - r4)]) (m' := m) (o := none) rfl trivial ?_
      refine ww_if (t := 46) rfl rfl (by omega) (fun (h6 : r2 - r4 = 0) => ?_) (fun (h6 : ¬ (r2 - r4 = 0)) => ?_)
      · show wW (zK sc) zM31 46 [(8, .inl (r2 - r4)), (0, .inr (.inr (.inl (some (1, t))))), (1, .inl x), (2, .inl y), (3, .inr (.inr (.inl (some (1, s))))), (4, .inl u), (5, .inl v), (6, .inl w), (7, .inl z)] [] _ _ _
        refine ww_go 2 (pc' := 11) (L' := [(7, .inl (z + 1)), (8, .inl (r2 - r4)), (0, .inr (.inr (.inl (some (1, t))))), (1, .inl x), (2, .inl y), (3, .inr (.inr (.inl (some (1, s))))), (4, .inl u), (5, .inl v), (6, .inl w)]) (st' := []) (m' := m) (o := none) rfl trivial ?_
        refine ww_sub (L := [(0, .inr (.inr (.inl (some (1, t))))), (1, .inl x), (2, .inl y), (3, .inr (.inr (.inl (some (1, s))))), (4, .inl u), (5, .inl v), (6, .inl w), (7, .inl (z + 1))]) ⟨rfl, rfl, rfl, rfl, rfl, rfl, rfl, rfl, trivial⟩ rfl rfl ?_
        exact (ih _ (by omega)) w (z + 1) rfl (by omega) (by exact fun q hq => (Decidable.em ((q : Int) < z)).elim (fun w => hz q w) (fun w => (by rw [show (q : Int) = z from by omega]; omega)))
      · show wW (zK sc) zM31 43 [(8, .inl (r2 - r4)), (0, .inr (.inr (.inl (some (1, t))))), (1, .inl x), (2, .inl y), (3, .inr (.inr (.inl (some (1, s))))), (4, .inl u), (5, .inl v), (6, .inl w), (7, .inl z)] [] _ _ _
        refine ww_go 1 (pc' := 45) (L' := [(8, .inl (r2 - r4)), (0, .inr (.inr (.inl (some (1, t))))), (1, .inl x), (2, .inl y), (3, .inr (.inr (.inl (some (1, s))))), (4, .inl u), (5, .inl v), (6, .inl w), (7, .inl z)]) (st' := [.inl (r2 - r4)]) (m' := m) (o := none) rfl trivial ?_
        exact ww_rI rfl rfl ⟨_, rfl, rfl, rfl, by (exact ⟨by omega, Or.inl ⟨z.toNat, (by show ((z.toNat : Nat) : Int) < y; omega), (by show ((z.toNat : Nat) : Int) < v; omega), fun q hq => hz q (by omega), (by show zBat m t (x + ((z.toNat : Nat) : Int)) ≠ zBat m s (u + ((z.toNat : Nat) : Int)); rw [show ((z.toNat : Nat) : Int) = z from by omega]; omega), (by show _ = zBat m t (x + ((z.toNat : Nat) : Int)) - zBat m s (u + ((z.toNat : Nat) : Int)); rw [show ((z.toNat : Nat) : Int) = z from by omega]; omega)⟩⟩)⟩
set_option maxRecDepth 8000 in
/-- Bytes.compareParts -/
theorem zs31 {sc : xSc} {n : Nat × Nat} {m : wm} {c : Int} (hc : 0 ≤ c ∧ c ≤ 1000000) (x : Int) (y : Int) (u : Int) (v : Int) (t : Nat) (s : Nat) (hG : zB c m) (h0 : t < 171 ∧ s < 171 ∧ -1000000 ≤ x ∧ x ≤ 1000000 ∧ 0 ≤ y ∧ y ≤ 1000000 ∧ -1000000 ≤ u ∧ u ≤ 1000000 ∧ 0 ≤ v ∧ v ≤ 1000000) : wX (zK sc) 31 [.inr (.inr (.inl (some (1, t)))), .inl x, .inl y, .inr (.inr (.inl (some (1, s)))), .inl u, .inl v] n m (wr (fun vv n1 m1 => ∃ r : Int, vv = some (.inl r) ∧ n = n1 ∧ m = m1 ∧ ((-1000000 ≤ r ∧ r ≤ 1000000) ∧ zCm (y, fun q : Nat => zBat m t (x + (q : Int))) (v, fun q : Nat => zBat m s (u + (q : Int))) r))) := by
  refine wX_of (N := zM31) rfl (Nat.le_of_ble_eq_true rfl) ?_
  show wW (zK sc) zM31 0 [(0, .inr (.inr (.inl (some (1, t))))), (1, .inl x), (2, .inl y), (3, .inr (.inr (.inl (some (1, s))))), (4, .inl u), (5, .inl v)] [] n m _
  refine ww_go 6 (pc' := 11) (L' := [(7, .inl 0), (6, .inl (min y v)), (0, .inr (.inr (.inl (some (1, t))))), (1, .inl x), (2, .inl y), (3, .inr (.inr (.inl (some (1, s))))), (4, .inl u), (5, .inl v)]) (st' := []) (m' := m) (o := some ((-2147483648 ≤ y ∧ y ≤ 2147483647 ∧ -2147483648 ≤ v ∧ v ≤ 2147483647))) rfl (show (-2147483648 ≤ y ∧ y ≤ 2147483647 ∧ -2147483648 ≤ v ∧ v ≤ 2147483647) from by omega) ?_
  refine ww_sub (L := [(0, .inr (.inr (.inl (some (1, t))))), (1, .inl x), (2, .inl y), (3, .inr (.inr (.inl (some (1, s))))), (4, .inl u), (5, .inl v), (6, .inl (min y v)), (7, .inl 0)]) ⟨rfl, rfl, rfl, rfl, rfl, rfl, rfl, rfl, trivial⟩ rfl rfl ?_
  exact (zs31_l11 hc x y u v t s hG h0 _) (min y v) 0 rfl (by omega) (by exact fun q hq => absurd hq (by omega))
set_option maxRecDepth 8000 in
/-- Bytes.compareAll -/
theorem zs30 {sc : xSc} {n : Nat × Nat} {m : wm} {c : Int} (hc : 0 ≤ c ∧ c ≤ 1000000) (t : Nat) (s : Nat) (hG : zB c m) (h0 : t < 171 ∧ s < 171) : wX (zK sc) 30 [.inr (.inr (.inl (some (1, t)))), .inr (.inr (.inl (some (1, s))))] n m (wr (fun vv n1 m1 => ∃ r : Int, vv = some (.inl r) ∧ n = n1 ∧ m = m1 ∧ ((-1000000 ≤ r ∧ r ≤ 1000000) ∧ zCm (zBR m t) (zBR m s) r))) := by
  refine wX_of (N := zM30) rfl (Nat.le_of_ble_eq_true rfl) ?_
  show wW (zK sc) zM30 0 [(0, .inr (.inr (.inl (some (1, t))))), (1, .inr (.inr (.inl (some (1, s)))))] [] n m _
  have zl1 := zlim_le t
  have zl2 := zlim_le s
  have b1 : 0 ≤ m.1 1 t 1 ∧ m.1 1 t 1 ≤ (zlim t : Nat) := hG.1 1 _ rfl _ _
  have b2 : 0 ≤ m.1 1 s 1 ∧ m.1 1 s 1 ≤ (zlim s : Nat) := hG.1 1 _ rfl _ _
  refine ww_go 8 (pc' := 12) (L' := [(0, .inr (.inr (.inl (some (1, t))))), (1, .inr (.inr (.inl (some (1, s)))))]) (st' := [.inl (m.1 1 s 1), .inl 0, .inr (.inr (.inl (some (1, s)))), .inl (m.1 1 t 1), .inl 0, .inr (.inr (.inl (some (1, t))))]) (m' := m) (o := some ((t < 171) ∧ (s < 171))) rfl (show (t < 171) ∧ (s < 171) from by omega) ?_
  refine ww_call (vs := [.inr (.inr (.inl (some (1, t)))), .inl 0, .inl (m.1 1 t 1), .inr (.inr (.inl (some (1, s)))), .inl 0, .inl (m.1 1 s 1)]) (r := []) (p := t < 171) rfl rfl rfl rfl (show t < 171 from by omega) (zs31 (c := c) (by omega) 0 (m.1 1 t 1) 0 (m.1 1 s 1) t s hG (by omega)) ?_
  rintro _ _ _ ⟨r3, rfl, rfl, rfl, hr4⟩
  show wW (zK sc) zM30 15 [(0, .inr (.inr (.inl (some (1, t))))), (1, .inr (.inr (.inl (some (1, s)))))] [.inl r3] _ _ _
  exact ww_rI rfl rfl ⟨_, rfl, rfl, rfl, by (exact ⟨by omega, (by have z9 := hr4.2; rw [zBR_p, zBR_p] at z9; exact z9)⟩)⟩
set_option maxRecDepth 8000 in
/-- Cut.blocks -/
theorem zs42 {sc : xSc} {n : Nat × Nat} {m : wm} (x : Int) (h0 : 0 ≤ x ∧ x ≤ 1000) : wX (zK sc) 42 [.inl x] n m (wr (fun vv n1 m1 => ∃ r : Int, vv = some (.inl r) ∧ n = n1 ∧ m = m1 ∧ (1 ≤ r ∧ r ≤ 16 ∧ (x ≤ 64 → r = 1) ∧ (64 < x → x ≤ 128 → r = 2)))) := by
  refine wX_of (N := zM42) rfl (Nat.le_of_ble_eq_true rfl) ?_
  show wW (zK sc) zM42 0 [(0, .inl x)] [] n m _
  have t1 : (0 ≤ ((x + 64) - 1) → ((x + 64) - 1).tdiv 64 = ((x + 64) - 1) / 64) ∧ (((x + 64) - 1) < 0 → ((x + 64) - 1).tdiv 64 = -((-(((x + 64) - 1))) / 64)) := ⟨fun z => Int.tdiv_eq_ediv_of_nonneg z, fun z => wtdiv_neg z⟩
  refine ww_go 9 (pc' := 13) (L' := [(0, .inl x)]) (st' := [.inl (max 1 (((x + 64) - 1).tdiv 64))]) (m' := m) (o := some ((-2147483648 ≤ (x + 64) - 1 ∧ (x + 64) - 1 ≤ 2147483647 ∧ 0 < (64 : Int) ∧ (64 : Int) ≤ 2147483647) ∧ (-2147483648 ≤ (1 : Int) ∧ (1 : Int) ≤ 2147483647 ∧ -2147483648 ≤ ((x + 64) - 1).tdiv 64 ∧ ((x + 64) - 1).tdiv 64 ≤ 2147483647))) rfl (show (-2147483648 ≤ (x + 64) - 1 ∧ (x + 64) - 1 ≤ 2147483647 ∧ 0 < (64 : Int) ∧ (64 : Int) ≤ 2147483647) ∧ (-2147483648 ≤ (1 : Int) ∧ (1 : Int) ≤ 2147483647 ∧ -2147483648 ≤ ((x + 64) - 1).tdiv 64 ∧ ((x + 64) - 1).tdiv 64 ≤ 2147483647) from by omega) ?_
  exact ww_rI rfl rfl ⟨_, rfl, rfl, rfl, by omega⟩
set_option maxRecDepth 8000 in
/-- Cut.pieces -/
theorem zs45 {sc : xSc} {n : Nat × Nat} {m : wm} (x : Int) (y : Int) (h0 : 0 ≤ x ∧ x ≤ 1000 ∧ 0 ≤ y ∧ y ≤ 1000) : wX (zK sc) 45 [.inl x, .inl y] n m (wr (fun vv n1 m1 => ∃ r : Int, vv = some (.inl r) ∧ n = n1 ∧ m = m1 ∧ (1 ≤ r ∧ r ≤ 8 ∧ r = max 1 ((min 64 (x - 64 * y) + 7) / 8)))) := by
  refine wX_of (N := zM45) rfl (Nat.le_of_ble_eq_true rfl) ?_
  show wW (zK sc) zM45 0 [(0, .inl x), (1, .inl y)] [] n m _
  have t1 : (0 ≤ (((min 64 (x - (y * 64))) + 8) - 1) → (((min 64 (x - (y * 64))) + 8) - 1).tdiv 8 = (((min 64 (x - (y * 64))) + 8) - 1) / 8) ∧ ((((min 64 (x - (y * 64))) + 8) - 1) < 0 → (((min 64 (x - (y * 64))) + 8) - 1).tdiv 8 = -((-((((min 64 (x - (y * 64))) + 8) - 1))) / 8)) := ⟨fun z => Int.tdiv_eq_ediv_of_nonneg z, fun z => wtdiv_neg z⟩
  refine ww_go 17 (pc' := 25) (L' := [(2, .inl (min 64 (x - (y * 64)))), (0, .inl x), (1, .inl y)]) (st' := [.inl (max 1 ((((min 64 (x - (y * 64))) + 8) - 1).tdiv 8))]) (m' := m) (o := some ((-2147483648 ≤ (64 : Int) ∧ (64 : Int) ≤ 2147483647 ∧ -2147483648 ≤ x - (y * 64) ∧ x - (y * 64) ≤ 2147483647) ∧ (-2147483648 ≤ ((min 64 (x - (y * 64))) + 8) - 1 ∧ ((min 64 (x - (y * 64))) + 8) - 1 ≤ 2147483647 ∧ 0 < (8 : Int) ∧ (8 : Int) ≤ 2147483647) ∧ (-2147483648 ≤ (1 : Int) ∧ (1 : Int) ≤ 2147483647 ∧ -2147483648 ≤ (((min 64 (x - (y * 64))) + 8) - 1).tdiv 8 ∧ (((min 64 (x - (y * 64))) + 8) - 1).tdiv 8 ≤ 2147483647))) rfl (show (-2147483648 ≤ (64 : Int) ∧ (64 : Int) ≤ 2147483647 ∧ -2147483648 ≤ x - (y * 64) ∧ x - (y * 64) ≤ 2147483647) ∧ (-2147483648 ≤ ((min 64 (x - (y * 64))) + 8) - 1 ∧ ((min 64 (x - (y * 64))) + 8) - 1 ≤ 2147483647 ∧ 0 < (8 : Int) ∧ (8 : Int) ≤ 2147483647) ∧ (-2147483648 ≤ (1 : Int) ∧ (1 : Int) ≤ 2147483647 ∧ -2147483648 ≤ (((min 64 (x - (y * 64))) + 8) - 1).tdiv 8 ∧ (((min 64 (x - (y * 64))) + 8) - 1).tdiv 8 ≤ 2147483647) from by omega) ?_
  exact ww_rI rfl rfl ⟨_, rfl, rfl, rfl, by omega⟩
set_option maxRecDepth 8000 in
/-- Cut.packets -/
theorem zs44 {sc : xSc} {n : Nat × Nat} {m : wm} (x : Int) (y : Int) (h0 : 0 ≤ x ∧ x ≤ 1000 ∧ 0 ≤ y ∧ y ≤ 1000) : wX (zK sc) 44 [.inl x, .inl y] n m (wr (fun vv n1 m1 => ∃ r : Int, vv = some (.inl r) ∧ n = n1 ∧ m = m1 ∧ (2 ≤ r ∧ r ≤ 16 ∧ r = zpb x y))) := by
  refine wX_of (N := zM44) rfl (Nat.le_of_ble_eq_true rfl) ?_
  show wW (zK sc) zM44 0 [(0, .inl x), (1, .inl y)] [] n m _
  refine ww_go 3 (pc' := 3) (L' := [(0, .inl x), (1, .inl y)]) (st' := [.inl y, .inl x, .inl 2]) (m' := m) (o := none) rfl trivial ?_
  refine ww_call (vs := [.inl x, .inl y]) (r := [.inl 2]) (p := True) rfl rfl rfl rfl trivial (zs45 x y (by omega)) ?_
  rintro _ _ _ ⟨r1, rfl, rfl, rfl, hr2⟩
  show wW (zK sc) zM44 6 [(0, .inl x), (1, .inl y)] [.inl r1, .inl 2] _ _ _
  refine ww_go 1 (pc' := 7) (L' := [(0, .inl x), (1, .inl y)]) (st' := [.inl (2 * r1)]) (m' := m) (o := none) rfl trivial ?_
  exact ww_rI rfl rfl ⟨_, rfl, rfl, rfl, by unfold zpb; omega⟩
set_option maxRecDepth 8000 in
/-- Cut.mask -/
theorem zs43 {sc : xSc} {n : Nat × Nat} {m : wm} (x : Int) (s : Int) (b : Int) (y : Int) (n9 : Int) (h0 : -2147483648 ≤ y ∧ y ≤ 2147483647 ∧ -2147483648 ≤ n9 ∧ n9 ≤ 2147483647 ∧ 1 ≤ n9 ∧ n9 ≤ 8) : wX (zK sc) 43 [.inl x, .inl s, .inl b, .inl y, .inl n9] n m (wr (fun vv n1 m1 => ∃ r : Int, vv = some (.inl r) ∧ n = n1 ∧ m = m1 ∧ ((-2147483648 ≤ r ∧ r ≤ 2147483647) ∧ r = zmk x s b y n9))) := by
  refine wX_of (N := zM43) rfl (Nat.le_of_ble_eq_true rfl) ?_
  show wW (zK sc) zM43 0 [(0, .inl x), (1, .inl s), (2, .inl b), (3, .inl y), (4, .inl n9)] [] n m _
  refine ww_go 2 (pc' := 3) (L' := [(0, .inl x), (1, .inl s), (2, .inl b), (3, .inl y), (4, .inl n9)]) (st' := [.inl n9, .inl y]) (m' := m) (o := none) rfl trivial ?_
  refine ww_ic (t := 10) rfl rfl (by omega) (fun (h1 : n9 ≤ y) => ?_) (fun (h1 : ¬ (n9 ≤ y)) => ?_)
  · show wW (zK sc) zM43 10 [(0, .inl x), (1, .inl s), (2, .inl b), (3, .inl y), (4, .inl n9)] [] _ _ _
    have t2 := wshl_rg 1 n9
    have t3 : 0 ≤ n9 ∧ n9 ≤ 30 → 1 ≤ wshl 1 n9 := wshl1_rg
    have t4 := wushr_rg (((((40503 * (y + 1)) * (y + 7)) + (9973 * (b + 1))) + (977 * s)) + (31 * x)) 8
    have t5 := wand_rg (wushr (((((40503 * (y + 1)) * (y + 7)) + (9973 * (b + 1))) + (977 * s)) + (31 * x)) 8) ((wshl 1 n9) - 1)
    refine ww_go 37 (pc' := 62) (L' := [(7, .inl (wand (wushr (((((40503 * (y + 1)) * (y + 7)) + (9973 * (b + 1))) + (977 * s)) + (31 * x)) 8) ((wshl 1 n9) - 1))), (6, .inl (((((40503 * (y + 1)) * (y + 7)) + (9973 * (b + 1))) + (977 * s)) + (31 * x))), (5, .inl ((wshl 1 n9) - 1)), (0, .inl x), (1, .inl s), (2, .inl b), (3, .inl y), (4, .inl n9)]) (st' := [.inl (wand (wushr (((((40503 * (y + 1)) * (y + 7)) + (9973 * (b + 1))) + (977 * s)) + (31 * x)) 8) ((wshl 1 n9) - 1))]) (m' := m) (o := none) rfl trivial ?_
    refine ww_if (t := 70) rfl rfl (by omega) (fun (h6 : wand (wushr (((((40503 * (y + 1)) * (y + 7)) + (9973 * (b + 1))) + (977 * s)) + (31 * x)) 8) ((wshl 1 n9) - 1) ≠ 0) => ?_) (fun (h6 : ¬ (wand (wushr (((((40503 * (y + 1)) * (y + 7)) + (9973 * (b + 1))) + (977 * s)) + (31 * x)) 8) ((wshl 1 n9) - 1) ≠ 0)) => ?_)
    · show wW (zK sc) zM43 70 [(7, .inl (wand (wushr (((((40503 * (y + 1)) * (y + 7)) + (9973 * (b + 1))) + (977 * s)) + (31 * x)) 8) ((wshl 1 n9) - 1))), (6, .inl (((((40503 * (y + 1)) * (y + 7)) + (9973 * (b + 1))) + (977 * s)) + (31 * x))), (5, .inl ((wshl 1 n9) - 1)), (0, .inl x), (1, .inl s), (2, .inl b), (3, .inl y), (4, .inl n9)] [] _ _ _
      refine ww_go 1 (pc' := 72) (L' := [(7, .inl (wand (wushr (((((40503 * (y + 1)) * (y + 7)) + (9973 * (b + 1))) + (977 * s)) + (31 * x)) 8) ((wshl 1 n9) - 1))), (6, .inl (((((40503 * (y + 1)) * (y + 7)) + (9973 * (b + 1))) + (977 * s)) + (31 * x))), (5, .inl ((wshl 1 n9) - 1)), (0, .inl x), (1, .inl s), (2, .inl b), (3, .inl y), (4, .inl n9)]) (st' := [.inl (wand (wushr (((((40503 * (y + 1)) * (y + 7)) + (9973 * (b + 1))) + (977 * s)) + (31 * x)) 8) ((wshl 1 n9) - 1))]) (m' := m) (o := none) rfl trivial ?_
      exact ww_rI rfl rfl ⟨_, rfl, rfl, rfl, by (refine ⟨by omega, ?_⟩; unfold zmk; first | (rw [if_pos (by omega)]; done) | (rw [if_neg (by omega), if_pos (by omega)]; done) | (rw [if_neg (by omega), if_neg (by omega)]; done))⟩
    · show wW (zK sc) zM43 65 [(7, .inl (wand (wushr (((((40503 * (y + 1)) * (y + 7)) + (9973 * (b + 1))) + (977 * s)) + (31 * x)) 8) ((wshl 1 n9) - 1))), (6, .inl (((((40503 * (y + 1)) * (y + 7)) + (9973 * (b + 1))) + (977 * s)) + (31 * x))), (5, .inl ((wshl 1 n9) - 1)), (0, .inl x), (1, .inl s), (2, .inl b), (3, .inl y), (4, .inl n9)] [] _ _ _
      refine ww_go 2 (pc' := 72) (L' := [(7, .inl (wand (wushr (((((40503 * (y + 1)) * (y + 7)) + (9973 * (b + 1))) + (977 * s)) + (31 * x)) 8) ((wshl 1 n9) - 1))), (6, .inl (((((40503 * (y + 1)) * (y + 7)) + (9973 * (b + 1))) + (977 * s)) + (31 * x))), (5, .inl ((wshl 1 n9) - 1)), (0, .inl x), (1, .inl s), (2, .inl b), (3, .inl y), (4, .inl n9)]) (st' := [.inl ((wshl 1 n9) - 1)]) (m' := m) (o := none) rfl trivial ?_
      exact ww_rI rfl rfl ⟨_, rfl, rfl, rfl, by (refine ⟨by omega, ?_⟩; unfold zmk; first | (rw [if_pos (by omega)]; done) | (rw [if_neg (by omega), if_pos (by omega)]; done) | (rw [if_neg (by omega), if_neg (by omega)]; done))⟩
  · show wW (zK sc) zM43 6 [(0, .inl x), (1, .inl s), (2, .inl b), (3, .inl y), (4, .inl n9)] [] _ _ _
    have t7 := wshl_rg 1 y
    have t8 : 0 ≤ y ∧ y ≤ 30 → 1 ≤ wshl 1 y := wshl1_rg
    refine ww_go 3 (pc' := 9) (L' := [(0, .inl x), (1, .inl s), (2, .inl b), (3, .inl y), (4, .inl n9)]) (st' := [.inl (wshl 1 y)]) (m' := m) (o := none) rfl trivial ?_
    exact ww_rI rfl rfl ⟨_, rfl, rfl, rfl, by (refine ⟨by omega, ?_⟩; unfold zmk; first | (rw [if_pos (by omega)]; done) | (rw [if_neg (by omega), if_pos (by omega)]; done) | (rw [if_neg (by omega), if_neg (by omega)]; done))⟩
