set_option maxRecDepth 8000 in
/-- Version.number -/
theorem zs155 {sc : xSc} {n : Nat × Nat} {m : wm} {c : Int} (hc : 0 ≤ c ∧ c ≤ 1000000) (t : Nat) (hG : zB c m) (h0 : t < 10) : wX (zK sc) 155 [.inr (.inr (.inl (some (26, t))))] n m (wr (fun vv n1 m1 => ∃ r : Int, vv = some (.inl r) ∧ n = n1 ∧ m = m1 ∧ (r = m.1 26 t 7 ∧ 0 ≤ r ∧ r ≤ 65535))) := by
  refine wX_of (N := zM155) rfl (Nat.le_of_ble_eq_true rfl) ?_
  show wW (zK sc) zM155 0 [(0, .inr (.inr (.inl (some (26, t)))))] [] n m _
  have b1 : 0 ≤ m.1 26 t 7 ∧ m.1 26 t 7 ≤ 65535 := hG.1 26 _ rfl _ _
  refine ww_go 2 (pc' := 4) (L' := [(0, .inr (.inr (.inl (some (26, t)))))]) (st' := [.inl (m.1 26 t 7)]) (m' := m) (o := some ((t < 10))) rfl (show (t < 10) from by omega) ?_
  exact ww_rI rfl rfl ⟨_, rfl, rfl, rfl, by exact ⟨rfl, by omega, by omega⟩⟩
set_option maxRecDepth 8000 in
/-- Version.state -/
theorem zs159 {sc : xSc} {n : Nat × Nat} {m : wm} {c : Int} (hc : 0 ≤ c ∧ c ≤ 1000000) (t : Nat) (hG : zB c m) (h0 : t < 10) : wX (zK sc) 159 [.inr (.inr (.inl (some (26, t))))] n m (wr (fun vv n1 m1 => ∃ r : Int, vv = some (.inl r) ∧ n = n1 ∧ m = m1 ∧ (r = m.1 26 t 8 ∧ 0 ≤ r ∧ r ≤ 5))) := by
  refine wX_of (N := zM159) rfl (Nat.le_of_ble_eq_true rfl) ?_
  show wW (zK sc) zM159 0 [(0, .inr (.inr (.inl (some (26, t)))))] [] n m _
  have b1 : 0 ≤ m.1 26 t 8 ∧ m.1 26 t 8 ≤ 5 := hG.1 26 _ rfl _ _
  refine ww_go 2 (pc' := 4) (L' := [(0, .inr (.inr (.inl (some (26, t)))))]) (st' := [.inl (m.1 26 t 8)]) (m' := m) (o := some ((t < 10))) rfl (show (t < 10) from by omega) ?_
  exact ww_rI rfl rfl ⟨_, rfl, rfl, rfl, by exact ⟨rfl, by omega, by omega⟩⟩
set_option maxRecDepth 8000 in
/-- Version.become -/
theorem zs137 {sc : xSc} {n : Nat × Nat} {m0 : wm} {c : Int} (hc : 0 ≤ c ∧ c ≤ 1000000) (x : Int) (t : Nat) (hG : zB c m0) (h0 : t < 10 ∧ 0 ≤ x ∧ x ≤ 5) : wX (zK sc) 137 [.inr (.inr (.inl (some (26, t)))), .inl x] n m0 (wr (fun vv n1 m1 => vv = none ∧ n = n1 ∧ zB c m1 ∧ zfr (fun k i j => (k = 26 ∧ i = t)) m0 m1 ∧ True)) := by
  refine wX_of (N := zM137) rfl (Nat.le_of_ble_eq_true rfl) ?_
  show wW (zK sc) zM137 0 [(0, .inr (.inr (.inl (some (26, t))))), (1, .inl x)] [] n m0 _
  have hF : zfr (fun k i j => (k = 26 ∧ i = t)) m0 m0 := zfr_rf
  refine ww_go 3 (pc' := 5) (L' := [(0, .inr (.inr (.inl (some (26, t))))), (1, .inl x)]) (st' := []) (m' := wuI m0 26 t 8 x) (o := some ((t < 10))) rfl (show (t < 10) from by omega) ?_
  obtain ⟨m1, hm1⟩ : ∃ zq9 : wm, zq9 = wuI m0 26 t 8 x := ⟨_, rfl⟩
  rw [← hm1]
  have hGm1 : zB c m1 := by rw [hm1]; exact zB_wI rfl (show 0 ≤ x ∧ x ≤ 5 from by omega) hG
  have hFm1 : zfr (fun k i j => (k = 26 ∧ i = t)) m0 m1 := by rw [hm1]; exact zfr_wI hF (show (26 = 26 ∧ t = t) from ⟨rfl, rfl⟩)
  have s2 : m1.1 26 t 8 = x := by rw [hm1]; exact wuI_self
  exact ww_rV rfl rfl ⟨rfl, rfl, zB_mono hGm1 (by omega), hFm1, by trivial⟩
set_option maxRecDepth 8000 in
/-- Version.files -/
theorem zs141 {sc : xSc} {n : Nat × Nat} {m : wm} {c : Int} (hc : 0 ≤ c ∧ c ≤ 1000000) (t : Nat) (hG : zB c m) (h0 : t < 10) : wX (zK sc) 141 [.inr (.inr (.inl (some (26, t))))] n m (wr (fun vv n1 m1 => ∃ r : Int, vv = some (.inl r) ∧ n = n1 ∧ m = m1 ∧ (r = m.1 26 t 9 ∧ 0 ≤ r ∧ r ≤ 6))) := by
  refine wX_of (N := zM141) rfl (Nat.le_of_ble_eq_true rfl) ?_
  show wW (zK sc) zM141 0 [(0, .inr (.inr (.inl (some (26, t)))))] [] n m _
  have b1 : 0 ≤ m.1 26 t 9 ∧ m.1 26 t 9 ≤ 6 := hG.1 26 _ rfl _ _
  refine ww_go 2 (pc' := 4) (L' := [(0, .inr (.inr (.inl (some (26, t)))))]) (st' := [.inl (m.1 26 t 9)]) (m' := m) (o := some ((t < 10))) rfl (show (t < 10) from by omega) ?_
  exact ww_rI rfl rfl ⟨_, rfl, rfl, rfl, by exact ⟨rfl, by omega, by omega⟩⟩
set_option maxRecDepth 8000 in
/-- Version.isGood -/
theorem zs149 {sc : xSc} {n : Nat × Nat} {m : wm} {c : Int} (hc : 0 ≤ c ∧ c ≤ 1000000) (t : Nat) (hG : zB c m) (h0 : t < 10) : wX (zK sc) 149 [.inr (.inr (.inl (some (26, t))))] n m (wr (fun vv n1 m1 => ∃ r : Int, vv = some (.inl r) ∧ n = n1 ∧ m = m1 ∧ (0 ≤ r ∧ r ≤ 1))) := by
  refine wX_of (N := zM149) rfl (Nat.le_of_ble_eq_true rfl) ?_
  show wW (zK sc) zM149 0 [(0, .inr (.inr (.inl (some (26, t)))))] [] n m _
  have b1 : 0 ≤ m.1 26 t 10 ∧ m.1 26 t 10 ≤ 1 := hG.1 26 _ rfl _ _
  refine ww_go 2 (pc' := 4) (L' := [(0, .inr (.inr (.inl (some (26, t)))))]) (st' := [.inl (m.1 26 t 10)]) (m' := m) (o := some ((t < 10))) rfl (show (t < 10) from by omega) ?_
  exact ww_rB rfl rfl (by omega) ⟨_, rfl, rfl, rfl, by omega⟩
set_option maxRecDepth 8000 in
/-- Version.holds -/
theorem zs146 {sc : xSc} {n : Nat × Nat} {m : wm} {c : Int} (hc : 0 ≤ c ∧ c ≤ 1000000) (x : Int) (t : Nat) (hG : zB c m) (h0 : t < 10 ∧ 0 ≤ x ∧ x ≤ 6) : wX (zK sc) 146 [.inr (.inr (.inl (some (26, t)))), .inl x] n m (wr (fun vv n1 m1 => ∃ r : Int, vv = some (.inl r) ∧ n = n1 ∧ m = m1 ∧ (0 ≤ r ∧ r ≤ 1))) := by
  refine wX_of (N := zM146) rfl (Nat.le_of_ble_eq_true rfl) ?_
  show wW (zK sc) zM146 0 [(0, .inr (.inr (.inl (some (26, t))))), (1, .inl x)] [] n m _
  have b1 : 0 ≤ m.1 29 t x.toNat ∧ m.1 29 t x.toNat ≤ 1 := hG.1 29 _ rfl _ _
  refine ww_go 4 (pc' := 6) (L' := [(0, .inr (.inr (.inl (some (26, t))))), (1, .inl x)]) (st' := [.inl (m.1 29 t x.toNat)]) (m' := m) (o := some ((t < 10) ∧ (t < 10 ∧ 0 ≤ x ∧ x < ((7 : Nat) : Int)))) rfl (show (t < 10) ∧ (t < 10 ∧ 0 ≤ x ∧ x < ((7 : Nat) : Int)) from by omega) ?_
  exact ww_rB rfl rfl (by omega) ⟨_, rfl, rfl, rfl, by omega⟩
set_option maxRecDepth 8000 in
/-- Version.item -/
theorem zs152 {sc : xSc} {n : Nat × Nat} {m : wm} {c : Int} (hc : 0 ≤ c ∧ c ≤ 1000000) (x : Int) (t : Nat) (hG : zB c m) (h0 : t < 10 ∧ 0 ≤ x ∧ x ≤ 6) : wX (zK sc) 152 [.inr (.inr (.inl (some (26, t)))), .inl x] n m (wr (fun vv n1 m1 => ∃ r : Nat, vv = some (.inr (.inr (.inl (some (1, r))))) ∧ n = n1 ∧ m = m1 ∧ (r = 101 + 7 * t + x.toNat))) := by
  refine wX_of (N := zM152) rfl (Nat.le_of_ble_eq_true rfl) ?_
  show wW (zK sc) zM152 0 [(0, .inr (.inr (.inl (some (26, t))))), (1, .inl x)] [] n m _
  refine ww_go 4 (pc' := 6) (L' := [(0, .inr (.inr (.inl (some (26, t))))), (1, .inl x)]) (st' := [.inr (.inr (.inl (some (1, 101 + 7 * t + x.toNat))))]) (m' := m) (o := some ((t < 10) ∧ (t < 10 ∧ 0 ≤ x ∧ x < ((7 : Nat) : Int)))) rfl (show (t < 10) ∧ (t < 10 ∧ 0 ≤ x ∧ x < ((7 : Nat) : Int)) from by omega) ?_
  exact ww_rA rfl rfl ⟨_, rfl, rfl, rfl, by rfl⟩
set_option maxRecDepth 8000 in
theorem zs139_l18 {sc : xSc} {n : Nat × Nat} {m0 : wm} {c : Int} (hc : 0 ≤ c ∧ c ≤ 1000000) (x : Int) (t : Nat) (hG : zB c m0) (h0 : t < 10 ∧ 0 ≤ x ∧ x ≤ 6) : ∀ (d : Nat), ∀ (y : Int) (m : wm), (2 - y).toNat = d → zB c m → zfr (fun k i j => (k = 1 ∧ 101 ≤ i ∧ i < 171 ∧ j = 1) ∨ (k = 26 ∧ i = t) ∨ (k = 28 ∧ i = t) ∨ (k = 29 ∧ i = t)) m0 m → (0 ≤ y ∧ y ≤ 2) →  wW (zK sc) zM139 18 [(0, .inr (.inr (.inl (some (26, t))))), (1, .inl x), (2, .inl y)] [] n m (wr (fun vv n1 m1 => vv = none ∧ n = n1 ∧ zB c m1 ∧ zfr (fun k i j => (k = 1 ∧ 101 ≤ i ∧ i < 171 ∧ j = 1) ∨ (k = 26 ∧ i = t) ∨ (k = 28 ∧ i = t) ∨ (k = 29 ∧ i = t)) m0 m1 ∧ True)) := by
  intro d
  induction d using Nat.strongRecOn with
  | ind d ih =>
    intro y m hd hGm hFm hi
    refine ww_go 2 (pc' := 20) (L' := [(0, .inr (.inr (.inl (some (26, t))))), (1, .inl x), (2, .inl y)]) (st' := [.inl 2, .inl y]) (m' := m) (o := none) rfl trivial ?_
    refine ww_ic (t := 40) rfl rfl (by omega) (fun (h1 : 2 ≤ y) => ?_) (fun (h1 : ¬ (2 ≤ y)) => ?_)
    · show wW (zK sc) zM139 40 [(0, .inr (.inr (.inl (some (26, t))))), (1, .inl x), (2, .inl y)] [] _ _ _
      refine ww_go 1 (pc' := 41) (L' := [(0, .inr (.inr (.inl (some (26, t))))), (1, .inl x), (2, .inl y)]) (st' := [.inl x]) (m' := m) (o := none) rfl trivial ?_
      refine ww_if (t := 54) rfl rfl (by omega) (fun (h2 : x ≠ 0) => ?_) (fun (h2 : ¬ (x ≠ 0)) => ?_)
      · show wW (zK sc) zM139 54 [(0, .inr (.inr (.inl (some (26, t))))), (1, .inl x), (2, .inl y)] [] _ _ _
        exact ww_rV rfl rfl ⟨rfl, rfl, zB_mono hGm (by omega), hFm, by trivial⟩
      · show wW (zK sc) zM139 44 [(0, .inr (.inr (.inl (some (26, t))))), (1, .inl x), (2, .inl y)] [] _ _ _
        refine ww_go 3 (pc' := 49) (L' := [(0, .inr (.inr (.inl (some (26, t))))), (1, .inl x), (2, .inl y)]) (st' := []) (m' := wuI m 26 t 10 0) (o := some ((t < 10 ∧ 0 ≤ (0 : Int) ∧ (0 : Int) ≤ 1))) rfl (show (t < 10 ∧ 0 ≤ (0 : Int) ∧ (0 : Int) ≤ 1) from by omega) ?_
        obtain ⟨m3, hm3⟩ : ∃ zq9 : wm, zq9 = wuI m 26 t 10 0 := ⟨_, rfl⟩
        rw [← hm3]
        have hGm3 : zB c m3 := by rw [hm3]; exact zB_wI rfl (show 0 ≤ (0 : Int) ∧ (0 : Int) ≤ 1 from by omega) hGm
        have hFm3 : zfr (fun k i j => (k = 1 ∧ 101 ≤ i ∧ i < 171 ∧ j = 1) ∨ (k = 26 ∧ i = t) ∨ (k = 28 ∧ i = t) ∨ (k = 29 ∧ i = t)) m0 m3 := by rw [hm3]; exact zfr_wI hFm (show (26 = 1 ∧ 101 ≤ t ∧ t < 171 ∧ 10 = 1) ∨ (26 = 26 ∧ t = t) ∨ (26 = 28 ∧ t = t) ∨ (26 = 29 ∧ t = t) from Or.inr (Or.inl (⟨rfl, rfl⟩)))
        have s4 : m3.1 26 t 10 = (0 : Int) := by rw [hm3]; exact wuI_self
        refine ww_go 3 (pc' := 54) (L' := [(0, .inr (.inr (.inl (some (26, t))))), (1, .inl x), (2, .inl y)]) (st' := []) (m' := wuI m3 26 t 9 0) (o := some ((t < 10))) rfl (show (t < 10) from by omega) ?_
        obtain ⟨m5, hm5⟩ : ∃ zq9 : wm, zq9 = wuI m3 26 t 9 0 := ⟨_, rfl⟩
        rw [← hm5]
        have hGm5 : zB c m5 := by rw [hm5]; exact zB_wI rfl (show 0 ≤ (0 : Int) ∧ (0 : Int) ≤ 6 from by omega) hGm3
        have hFm5 : zfr (fun k i j => (k = 1 ∧ 101 ≤ i ∧ i < 171 ∧ j = 1) ∨ (k = 26 ∧ i = t) ∨ (k = 28 ∧ i = t) ∨ (k = 29 ∧ i = t)) m0 m5 := by rw [hm5]; exact zfr_wI hFm3 (show (26 = 1 ∧ 101 ≤ t ∧ t < 171 ∧ 9 = 1) ∨ (26 = 26 ∧ t = t) ∨ (26 = 28 ∧ t = t) ∨ (26 = 29 ∧ t = t) from Or.inr (Or.inl (⟨rfl, rfl⟩)))
        have s6 : m5.1 26 t 9 = (0 : Int) := by rw [hm5]; exact wuI_self
        exact ww_rV rfl rfl ⟨rfl, rfl, zB_mono hGm5 (by omega), hFm5, by trivial⟩
    · show wW (zK sc) zM139 23 [(0, .inr (.inr (.inl (some (26, t))))), (1, .inl x), (2, .inl y)] [] _ _ _
      refine ww_go 9 (pc' := 34) (L' := [(0, .inr (.inr (.inl (some (26, t))))), (1, .inl x), (2, .inl y)]) (st' := []) (m' := wuI m 28 t (((x * 2) + y).toNat) 0) (o := some ((t < 10) ∧ (t < 10 ∧ 0 ≤ (x * 2) + y ∧ (x * 2) + y < ((14 : Nat) : Int) ∧ 0 ≤ (0 : Int) ∧ (0 : Int) ≤ 1))) rfl (show (t < 10) ∧ (t < 10 ∧ 0 ≤ (x * 2) + y ∧ (x * 2) + y < ((14 : Nat) : Int) ∧ 0 ≤ (0 : Int) ∧ (0 : Int) ≤ 1) from by omega) ?_
      obtain ⟨m7, hm7⟩ : ∃ zq9 : wm, zq9 = wuI m 28 t (((x * 2) + y).toNat) 0 := ⟨_, rfl⟩
      rw [← hm7]
      have hGm7 : zB c m7 := by rw [hm7]; exact zB_wI rfl (show 0 ≤ (0 : Int) ∧ (0 : Int) ≤ 1 from by omega) hGm
      have hFm7 : zfr (fun k i j => (k = 1 ∧ 101 ≤ i ∧ i < 171 ∧ j = 1) ∨ (k = 26 ∧ i = t) ∨ (k = 28 ∧ i = t) ∨ (k = 29 ∧ i = t)) m0 m7 := by rw [hm7]; exact zfr_wI hFm (show (28 = 1 ∧ 101 ≤ t ∧ t < 171 ∧ (((x * 2) + y).toNat) = 1) ∨ (28 = 26 ∧ t = t) ∨ (28 = 28 ∧ t = t) ∨ (28 = 29 ∧ t = t) from Or.inr (Or.inr (Or.inl (⟨rfl, rfl⟩))))
      have s8 : m7.1 28 t (((x * 2) + y).toNat) = (0 : Int) := by rw [hm7]; exact wuI_self
      refine ww_go 2 (pc' := 18) (L' := [(2, .inl (y + 1)), (0, .inr (.inr (.inl (some (26, t))))), (1, .inl x)]) (st' := []) (m' := m7) (o := none) rfl trivial ?_
      refine ww_sub (L := [(0, .inr (.inr (.inl (some (26, t))))), (1, .inl x), (2, .inl (y + 1))]) ⟨rfl, rfl, rfl, trivial⟩ rfl rfl ?_
      exact (ih _ (by omega)) (y + 1) m7 rfl (zB_mono hGm7 (by omega)) hFm7 (by omega)
set_option maxRecDepth 8000 in
/-- Version.clearItem -/
theorem zs139 {sc : xSc} {n : Nat × Nat} {m0 : wm} {c : Int} (hc : 0 ≤ c ∧ c ≤ 1000000) (x : Int) (t : Nat) (hG : zB c m0) (h0 : t < 10 ∧ 0 ≤ x ∧ x ≤ 6) : wX (zK sc) 139 [.inr (.inr (.inl (some (26, t)))), .inl x] n m0 (wr (fun vv n1 m1 => vv = none ∧ n = n1 ∧ zB c m1 ∧ zfr (fun k i j => (k = 1 ∧ 101 ≤ i ∧ i < 171 ∧ j = 1) ∨ (k = 26 ∧ i = t) ∨ (k = 28 ∧ i = t) ∨ (k = 29 ∧ i = t)) m0 m1 ∧ True)) := by
  refine wX_of (N := zM139) rfl (Nat.le_of_ble_eq_true rfl) ?_
  show wW (zK sc) zM139 0 [(0, .inr (.inr (.inl (some (26, t))))), (1, .inl x)] [] n m0 _
  have hF : zfr (fun k i j => (k = 1 ∧ 101 ≤ i ∧ i < 171 ∧ j = 1) ∨ (k = 26 ∧ i = t) ∨ (k = 28 ∧ i = t) ∨ (k = 29 ∧ i = t)) m0 m0 := zfr_rf
  refine ww_go 4 (pc' := 6) (L' := [(0, .inr (.inr (.inl (some (26, t))))), (1, .inl x)]) (st' := [.inr (.inr (.inl (some (1, 101 + 7 * t + x.toNat))))]) (m' := m0) (o := some ((t < 10) ∧ (t < 10 ∧ 0 ≤ x ∧ x < ((7 : Nat) : Int)))) rfl (show (t < 10) ∧ (t < 10 ∧ 0 ≤ x ∧ x < ((7 : Nat) : Int)) from by omega) ?_
  refine ww_call (vs := [.inr (.inr (.inl (some (1, 101 + 7 * t + x.toNat))))]) (r := []) (p := 101 + 7 * t + x.toNat < 171) rfl rfl rfl rfl (show 101 + 7 * t + x.toNat < 171 from by omega) (zs29 (c := c) (by omega) (101 + 7 * t + x.toNat) hG (by omega)) ?_
  rintro _ _ m3 ⟨rfl, rfl, hGm3, hEm3, hr2⟩
  have hFm3 : zfr (fun k i j => (k = 1 ∧ 101 ≤ i ∧ i < 171 ∧ j = 1) ∨ (k = 26 ∧ i = t) ∨ (k = 28 ∧ i = t) ∨ (k = 29 ∧ i = t)) m0 m3 := zfr_tr hF hEm3 (fun k i j z => (show (k = 1 ∧ 101 ≤ i ∧ i < 171 ∧ j = 1) ∨ (k = 26 ∧ i = t) ∨ (k = 28 ∧ i = t) ∨ (k = 29 ∧ i = t) from Or.inl ((show k = 1 ∧ 101 ≤ i ∧ i < 171 ∧ j = 1 from by omega))))
  show wW (zK sc) zM139 9 [(0, .inr (.inr (.inl (some (26, t))))), (1, .inl x)] [] _ _ _
  refine ww_go 5 (pc' := 16) (L' := [(0, .inr (.inr (.inl (some (26, t))))), (1, .inl x)]) (st' := []) (m' := wuI m3 29 t x.toNat 0) (o := some ((t < 10) ∧ (t < 10 ∧ 0 ≤ x ∧ x < ((7 : Nat) : Int) ∧ 0 ≤ (0 : Int) ∧ (0 : Int) ≤ 1))) rfl (show (t < 10) ∧ (t < 10 ∧ 0 ≤ x ∧ x < ((7 : Nat) : Int) ∧ 0 ≤ (0 : Int) ∧ (0 : Int) ≤ 1) from by omega) ?_
  obtain ⟨m4, hm4⟩ : ∃ zq9 : wm, zq9 = wuI m3 29 t x.toNat 0 := ⟨_, rfl⟩
  rw [← hm4]
  have hGm4 : zB c m4 := by rw [hm4]; exact zB_wI rfl (show 0 ≤ (0 : Int) ∧ (0 : Int) ≤ 1 from by omega) hGm3
  have hFm4 : zfr (fun k i j => (k = 1 ∧ 101 ≤ i ∧ i < 171 ∧ j = 1) ∨ (k = 26 ∧ i = t) ∨ (k = 28 ∧ i = t) ∨ (k = 29 ∧ i = t)) m0 m4 := by rw [hm4]; exact zfr_wI hFm3 (show (29 = 1 ∧ 101 ≤ t ∧ t < 171 ∧ x.toNat = 1) ∨ (29 = 26 ∧ t = t) ∨ (29 = 28 ∧ t = t) ∨ (29 = 29 ∧ t = t) from Or.inr (Or.inr (Or.inr (⟨rfl, rfl⟩))))
  have s5 : m4.1 29 t x.toNat = (0 : Int) := by rw [hm4]; exact wuI_self
  refine ww_go 2 (pc' := 18) (L' := [(2, .inl 0), (0, .inr (.inr (.inl (some (26, t))))), (1, .inl x)]) (st' := []) (m' := m4) (o := none) rfl trivial ?_
  refine ww_sub (L := [(0, .inr (.inr (.inl (some (26, t))))), (1, .inl x), (2, .inl 0)]) ⟨rfl, rfl, rfl, trivial⟩ rfl rfl ?_
  exact (zs139_l18 hc x t hG h0 _) 0 m4 rfl (zB_mono hGm4 (by omega)) hFm4 (by omega)
set_option maxRecDepth 8000 in
theorem zs138_l12 {sc : xSc} {n : Nat × Nat} {m0 : wm} {c : Int} (hc : 0 ≤ c ∧ c ≤ 1000000) (x : Int) (t : Nat) (hG : zB c m0) (h0 : t < 10 ∧ 0 ≤ x ∧ x ≤ 65535) : ∀ (d : Nat), ∀ (y : Int) (m : wm), (7 - y).toNat = d → zB c m → zfr (fun k i j => (k = 1 ∧ 101 ≤ i ∧ i < 171 ∧ j = 1) ∨ (k = 26 ∧ i = t) ∨ (k = 28 ∧ i = t) ∨ (k = 29 ∧ i = t)) m0 m → (0 ≤ y ∧ y ≤ 7) →  wW (zK sc) zM138 12 [(0, .inr (.inr (.inl (some (26, t))))), (2, .inl y)] [] n m (wr (fun vv n1 m1 => vv = none ∧ n = n1 ∧ zB c m1 ∧ zfr (fun k i j => (k = 1 ∧ 101 ≤ i ∧ i < 171 ∧ j = 1) ∨ (k = 26 ∧ i = t) ∨ (k = 28 ∧ i = t) ∨ (k = 29 ∧ i = t)) m0 m1 ∧ True)) := by
  intro d
  induction d using Nat.strongRecOn with
  | ind d ih =>
    intro y m hd hGm hFm hi
    refine ww_go 2 (pc' := 15) (L' := [(0, .inr (.inr (.inl (some (26, t))))), (2, .inl y)]) (st' := [.inl 7, .inl y]) (m' := m) (o := none) rfl trivial ?_
    refine ww_ic (t := 29) rfl rfl (by omega) (fun (h1 : 7 ≤ y) => ?_) (fun (h1 : ¬ (7 ≤ y)) => ?_)
    · show wW (zK sc) zM138 29 [(0, .inr (.inr (.inl (some (26, t))))), (2, .inl y)] [] _ _ _
      exact ww_rV rfl rfl ⟨rfl, rfl, zB_mono hGm (by omega), hFm, by trivial⟩
    · show wW (zK sc) zM138 18 [(0, .inr (.inr (.inl (some (26, t))))), (2, .inl y)] [] _ _ _
      refine ww_go 2 (pc' := 20) (L' := [(0, .inr (.inr (.inl (some (26, t))))), (2, .inl y)]) (st' := [.inl y, .inr (.inr (.inl (some (26, t))))]) (m' := m) (o := none) rfl trivial ?_
      refine ww_call (vs := [.inr (.inr (.inl (some (26, t)))), .inl y]) (r := []) (p := t < 10) rfl rfl rfl rfl (show t < 10 from by omega) (zs139 (c := c) (by omega) y t hGm (by omega)) ?_
      rintro _ _ m4 ⟨rfl, rfl, hGm4, hEm4, hr3⟩
      have hFm4 : zfr (fun k i j => (k = 1 ∧ 101 ≤ i ∧ i < 171 ∧ j = 1) ∨ (k = 26 ∧ i = t) ∨ (k = 28 ∧ i = t) ∨ (k = 29 ∧ i = t)) m0 m4 := zfr_tr hFm hEm4 (fun k i j z => Or.elim z (fun z => Or.inl z) (fun z => Or.elim z (fun z => Or.inr (Or.inl z)) (fun z => Or.elim z (fun z => Or.inr (Or.inr (Or.inl z))) (fun z => Or.inr (Or.inr (Or.inr (z)))))))
      show wW (zK sc) zM138 23 [(0, .inr (.inr (.inl (some (26, t))))), (2, .inl y)] [] _ _ _
      refine ww_go 2 (pc' := 12) (L' := [(2, .inl (y + 1)), (0, .inr (.inr (.inl (some (26, t)))))]) (st' := []) (m' := m4) (o := none) rfl trivial ?_
      refine ww_sub (L := [(0, .inr (.inr (.inl (some (26, t))))), (2, .inl (y + 1))]) ⟨rfl, rfl, trivial⟩ rfl rfl ?_
      exact (ih _ (by omega)) (y + 1) m4 rfl (zB_mono hGm4 (by omega)) hFm4 (by omega)
set_option maxRecDepth 8000 in
/-- Version.begin -/
theorem zs138 {sc : xSc} {n : Nat × Nat} {m0 : wm} {c : Int} (hc : 0 ≤ c ∧ c ≤ 1000000) (x : Int) (t : Nat) (hG : zB c m0) (h0 : t < 10 ∧ 0 ≤ x ∧ x ≤ 65535) : wX (zK sc) 138 [.inr (.inr (.inl (some (26, t)))), .inl x] n m0 (wr (fun vv n1 m1 => vv = none ∧ n = n1 ∧ zB c m1 ∧ zfr (fun k i j => (k = 1 ∧ 101 ≤ i ∧ i < 171 ∧ j = 1) ∨ (k = 26 ∧ i = t) ∨ (k = 28 ∧ i = t) ∨ (k = 29 ∧ i = t)) m0 m1 ∧ True)) := by
  refine wX_of (N := zM138) rfl (Nat.le_of_ble_eq_true rfl) ?_
  show wW (zK sc) zM138 0 [(0, .inr (.inr (.inl (some (26, t))))), (1, .inl x)] [] n m0 _
  have hF : zfr (fun k i j => (k = 1 ∧ 101 ≤ i ∧ i < 171 ∧ j = 1) ∨ (k = 26 ∧ i = t) ∨ (k = 28 ∧ i = t) ∨ (k = 29 ∧ i = t)) m0 m0 := zfr_rf
  refine ww_go 3 (pc' := 5) (L' := [(0, .inr (.inr (.inl (some (26, t))))), (1, .inl x)]) (st' := []) (m' := wuI m0 26 t 7 x) (o := some ((t < 10))) rfl (show (t < 10) from by omega) ?_
  obtain ⟨m1, hm1⟩ : ∃ zq9 : wm, zq9 = wuI m0 26 t 7 x := ⟨_, rfl⟩
  rw [← hm1]
  have hGm1 : zB c m1 := by rw [hm1]; exact zB_wI rfl (show 0 ≤ x ∧ x ≤ 65535 from by omega) hG
  have hFm1 : zfr (fun k i j => (k = 1 ∧ 101 ≤ i ∧ i < 171 ∧ j = 1) ∨ (k = 26 ∧ i = t) ∨ (k = 28 ∧ i = t) ∨ (k = 29 ∧ i = t)) m0 m1 := by rw [hm1]; exact zfr_wI hF (show (26 = 1 ∧ 101 ≤ t ∧ t < 171 ∧ 7 = 1) ∨ (26 = 26 ∧ t = t) ∨ (26 = 28 ∧ t = t) ∨ (26 = 29 ∧ t = t) from Or.inr (Or.inl (⟨rfl, rfl⟩)))
  have s2 : m1.1 26 t 7 = x := by rw [hm1]; exact wuI_self
  refine ww_go 3 (pc' := 10) (L' := [(0, .inr (.inr (.inl (some (26, t))))), (1, .inl x)]) (st' := []) (m' := wuI m1 26 t 8 1) (o := some ((t < 10))) rfl (show (t < 10) from by omega) ?_
  obtain ⟨m3, hm3⟩ : ∃ zq9 : wm, zq9 = wuI m1 26 t 8 1 := ⟨_, rfl⟩
  rw [← hm3]
  have hGm3 : zB c m3 := by rw [hm3]; exact zB_wI rfl (show 0 ≤ (1 : Int) ∧ (1 : Int) ≤ 5 from by omega) hGm1
  have hFm3 : zfr (fun k i j => (k = 1 ∧ 101 ≤ i ∧ i < 171 ∧ j = 1) ∨ (k = 26 ∧ i = t) ∨ (k = 28 ∧ i = t) ∨ (k = 29 ∧ i = t)) m0 m3 := by rw [hm3]; exact zfr_wI hFm1 (show (26 = 1 ∧ 101 ≤ t ∧ t < 171 ∧ 8 = 1) ∨ (26 = 26 ∧ t = t) ∨ (26 = 28 ∧ t = t) ∨ (26 = 29 ∧ t = t) from Or.inr (Or.inl (⟨rfl, rfl⟩)))
  have s4 : m3.1 26 t 8 = (1 : Int) := by rw [hm3]; exact wuI_self
  refine ww_go 2 (pc' := 12) (L' := [(2, .inl 0), (0, .inr (.inr (.inl (some (26, t))))), (1, .inl x)]) (st' := []) (m' := m3) (o := none) rfl trivial ?_
  refine ww_sub (L := [(0, .inr (.inr (.inl (some (26, t))))), (2, .inl 0)]) ⟨rfl, rfl, trivial⟩ rfl rfl ?_
  exact (zs138_l12 hc x t hG h0 _) 0 m3 rfl (zB_mono hGm3 (by omega)) hFm3 (by omega)
set_option maxRecDepth 8000 in
/-- Version.isSolved -/
theorem zs150 {sc : xSc} {n : Nat × Nat} {m : wm} {c : Int} (hc : 0 ≤ c ∧ c ≤ 1000000) (x : Int) (y : Int) (t : Nat) (hG : zB c m) (h0 : t < 10 ∧ 0 ≤ x ∧ x ≤ 6 ∧ 0 ≤ y ∧ y ≤ 1) : wX (zK sc) 150 [.inr (.inr (.inl (some (26, t)))), .inl x, .inl y] n m (wr (fun vv n1 m1 => ∃ r : Int, vv = some (.inl r) ∧ n = n1 ∧ m = m1 ∧ (0 ≤ r ∧ r ≤ 1))) := by
  refine wX_of (N := zM150) rfl (Nat.le_of_ble_eq_true rfl) ?_
  show wW (zK sc) zM150 0 [(0, .inr (.inr (.inl (some (26, t))))), (1, .inl x), (2, .inl y)] [] n m _
  have b1 : 0 ≤ m.1 28 t (((x * 2) + y).toNat) ∧ m.1 28 t (((x * 2) + y).toNat) ≤ 1 := hG.1 28 _ rfl _ _
  refine ww_go 8 (pc' := 10) (L' := [(0, .inr (.inr (.inl (some (26, t))))), (1, .inl x), (2, .inl y)]) (st' := [.inl (m.1 28 t (((x * 2) + y).toNat))]) (m' := m) (o := some ((t < 10) ∧ (t < 10 ∧ 0 ≤ (x * 2) + y ∧ (x * 2) + y < ((14 : Nat) : Int)))) rfl (show (t < 10) ∧ (t < 10 ∧ 0 ≤ (x * 2) + y ∧ (x * 2) + y < ((14 : Nat) : Int)) from by omega) ?_
  exact ww_rB rfl rfl (by omega) ⟨_, rfl, rfl, rfl, by omega⟩
set_option maxRecDepth 8000 in
/-- Version.hasSolved -/
theorem zs142 {sc : xSc} {n : Nat × Nat} {m : wm} {c : Int} (hc : 0 ≤ c ∧ c ≤ 1000000) (x : Int) (t : Nat) (hG : zB c m) (h0 : t < 10 ∧ 0 ≤ x ∧ x ≤ 6) : wX (zK sc) 142 [.inr (.inr (.inl (some (26, t)))), .inl x] n m (wr (fun vv n1 m1 => ∃ r : Int, vv = some (.inl r) ∧ n = n1 ∧ m = m1 ∧ (0 ≤ r ∧ r ≤ 1))) := by
  refine wX_of (N := zM142) rfl (Nat.le_of_ble_eq_true rfl) ?_
  show wW (zK sc) zM142 0 [(0, .inr (.inr (.inl (some (26, t))))), (1, .inl x)] [] n m _
  refine ww_go 3 (pc' := 3) (L' := [(0, .inr (.inr (.inl (some (26, t))))), (1, .inl x)]) (st' := [.inl 0, .inl x, .inr (.inr (.inl (some (26, t))))]) (m' := m) (o := none) rfl trivial ?_
  refine ww_call (vs := [.inr (.inr (.inl (some (26, t)))), .inl x, .inl 0]) (r := []) (p := t < 10) rfl rfl rfl rfl (show t < 10 from by omega) (zs150 (c := c) (by omega) x 0 t hG (by omega)) ?_
  rintro _ _ _ ⟨r1, rfl, rfl, rfl, hr2⟩
  show wW (zK sc) zM142 6 [(0, .inr (.inr (.inl (some (26, t))))), (1, .inl x)] [.inl r1] _ _ _
  refine ww_if (t := 18) rfl rfl (by omega) (fun (h3 : r1 ≠ 0) => ?_) (fun (h3 : ¬ (r1 ≠ 0)) => ?_)
  · show wW (zK sc) zM142 18 [(0, .inr (.inr (.inl (some (26, t))))), (1, .inl x)] [] _ _ _
    refine ww_go 2 (pc' := 23) (L' := [(0, .inr (.inr (.inl (some (26, t))))), (1, .inl x)]) (st' := [.inl 1]) (m' := m) (o := none) rfl trivial ?_
    exact ww_rB rfl rfl (by omega) ⟨_, rfl, rfl, rfl, by omega⟩
  · show wW (zK sc) zM142 9 [(0, .inr (.inr (.inl (some (26, t))))), (1, .inl x)] [] _ _ _
    refine ww_go 3 (pc' := 12) (L' := [(0, .inr (.inr (.inl (some (26, t))))), (1, .inl x)]) (st' := [.inl 1, .inl x, .inr (.inr (.inl (some (26, t))))]) (m' := m) (o := none) rfl trivial ?_
    refine ww_call (vs := [.inr (.inr (.inl (some (26, t)))), .inl x, .inl 1]) (r := []) (p := t < 10) rfl rfl rfl rfl (show t < 10 from by omega) (zs150 (c := c) (by omega) x 1 t hG (by omega)) ?_
    rintro _ _ _ ⟨r4, rfl, rfl, rfl, hr5⟩
    show wW (zK sc) zM142 15 [(0, .inr (.inr (.inl (some (26, t))))), (1, .inl x)] [.inl r4] _ _ _
    refine ww_if (t := 22) rfl rfl (by omega) (fun (h6 : r4 = 0) => ?_) (fun (h6 : ¬ (r4 = 0)) => ?_)
    · show wW (zK sc) zM142 22 [(0, .inr (.inr (.inl (some (26, t))))), (1, .inl x)] [] _ _ _
      refine ww_go 1 (pc' := 23) (L' := [(0, .inr (.inr (.inl (some (26, t))))), (1, .inl x)]) (st' := [.inl 0]) (m' := m) (o := none) rfl trivial ?_
      exact ww_rB rfl rfl (by omega) ⟨_, rfl, rfl, rfl, by omega⟩
    · show wW (zK sc) zM142 18 [(0, .inr (.inr (.inl (some (26, t))))), (1, .inl x)] [] _ _ _
      refine ww_go 2 (pc' := 23) (L' := [(0, .inr (.inr (.inl (some (26, t))))), (1, .inl x)]) (st' := [.inl 1]) (m' := m) (o := none) rfl trivial ?_
      exact ww_rB rfl rfl (by omega) ⟨_, rfl, rfl, rfl, by omega⟩
set_option maxRecDepth 8000 in
/-- Version.solve -/
theorem zs158 {sc : xSc} {n : Nat × Nat} {m0 : wm} {c : Int} (hc : 0 ≤ c ∧ c ≤ 1000000) (x : Int) (y : Int) (t : Nat) (hG : zB c m0) (h0 : t < 10 ∧ 0 ≤ x ∧ x ≤ 6 ∧ 0 ≤ y ∧ y ≤ 1) : wX (zK sc) 158 [.inr (.inr (.inl (some (26, t)))), .inl x, .inl y] n m0 (wr (fun vv n1 m1 => vv = none ∧ n = n1 ∧ zB c m1 ∧ zfr (fun k i j => (k = 28 ∧ i = t)) m0 m1 ∧ True)) := by
  refine wX_of (N := zM158) rfl (Nat.le_of_ble_eq_true rfl) ?_
  show wW (zK sc) zM158 0 [(0, .inr (.inr (.inl (some (26, t))))), (1, .inl x), (2, .inl y)] [] n m0 _
  have hF : zfr (fun k i j => (k = 28 ∧ i = t)) m0 m0 := zfr_rf
  refine ww_go 9 (pc' := 11) (L' := [(0, .inr (.inr (.inl (some (26, t))))), (1, .inl x), (2, .inl y)]) (st' := []) (m' := wuI m0 28 t (((x * 2) + y).toNat) 1) (o := some ((t < 10) ∧ (t < 10 ∧ 0 ≤ (x * 2) + y ∧ (x * 2) + y < ((14 : Nat) : Int) ∧ 0 ≤ (1 : Int) ∧ (1 : Int) ≤ 1))) rfl (show (t < 10) ∧ (t < 10 ∧ 0 ≤ (x * 2) + y ∧ (x * 2) + y < ((14 : Nat) : Int) ∧ 0 ≤ (1 : Int) ∧ (1 : Int) ≤ 1) from by omega) ?_
  obtain ⟨m1, hm1⟩ : ∃ zq9 : wm, zq9 = wuI m0 28 t (((x * 2) + y).toNat) 1 := ⟨_, rfl⟩
  rw [← hm1]
  have hGm1 : zB c m1 := by rw [hm1]; exact zB_wI rfl (show 0 ≤ (1 : Int) ∧ (1 : Int) ≤ 1 from by omega) hG
  have hFm1 : zfr (fun k i j => (k = 28 ∧ i = t)) m0 m1 := by rw [hm1]; exact zfr_wI hF (show (28 = 28 ∧ t = t) from ⟨rfl, rfl⟩)
  have s2 : m1.1 28 t (((x * 2) + y).toNat) = (1 : Int) := by rw [hm1]; exact wuI_self
  exact ww_rV rfl rfl ⟨rfl, rfl, zB_mono hGm1 (by omega), hFm1, by trivial⟩
set_option maxRecDepth 8000 in
/-- Version.isComplete -/
theorem zs148 {sc : xSc} {n : Nat × Nat} {m : wm} {c : Int} (hc : 0 ≤ c ∧ c ≤ 1000000) (x : Int) (t : Nat) (hG : zB c m) (h0 : t < 10 ∧ 0 ≤ x ∧ x ≤ 6) : wX (zK sc) 148 [.inr (.inr (.inl (some (26, t)))), .inl x] n m (wr (fun vv n1 m1 => ∃ r : Int, vv = some (.inl r) ∧ n = n1 ∧ m = m1 ∧ (0 ≤ r ∧ r ≤ 1))) := by
  refine wX_of (N := zM148) rfl (Nat.le_of_ble_eq_true rfl) ?_
  show wW (zK sc) zM148 0 [(0, .inr (.inr (.inl (some (26, t))))), (1, .inl x)] [] n m _
  have zl9 := zlim_le (101 + 7 * t + x.toNat)
  refine ww_go 3 (pc' := 3) (L' := [(0, .inr (.inr (.inl (some (26, t))))), (1, .inl x)]) (st' := [.inl 0, .inl x, .inr (.inr (.inl (some (26, t))))]) (m' := m) (o := none) rfl trivial ?_
  refine ww_call (vs := [.inr (.inr (.inl (some (26, t)))), .inl x, .inl 0]) (r := []) (p := t < 10) rfl rfl rfl rfl (show t < 10 from by omega) (zs150 (c := c) (by omega) x 0 t hG (by omega)) ?_
  rintro _ _ _ ⟨r1, rfl, rfl, rfl, hr2⟩
  show wW (zK sc) zM148 6 [(0, .inr (.inr (.inl (some (26, t))))), (1, .inl x)] [.inl r1] _ _ _
  refine ww_if (t := 38) rfl rfl (by omega) (fun (h3 : r1 = 0) => ?_) (fun (h3 : ¬ (r1 = 0)) => ?_)
  · show wW (zK sc) zM148 38 [(0, .inr (.inr (.inl (some (26, t))))), (1, .inl x)] [] _ _ _
    refine ww_go 1 (pc' := 39) (L' := [(0, .inr (.inr (.inl (some (26, t))))), (1, .inl x)]) (st' := [.inl 0]) (m' := m) (o := none) rfl trivial ?_
    exact ww_rB rfl rfl (by omega) ⟨_, rfl, rfl, rfl, by omega⟩
  · show wW (zK sc) zM148 9 [(0, .inr (.inr (.inl (some (26, t))))), (1, .inl x)] [] _ _ _
    refine ww_go 3 (pc' := 12) (L' := [(0, .inr (.inr (.inl (some (26, t))))), (1, .inl x)]) (st' := [.inl 1, .inl x, .inr (.inr (.inl (some (26, t))))]) (m' := m) (o := none) rfl trivial ?_
    refine ww_call (vs := [.inr (.inr (.inl (some (26, t)))), .inl x, .inl 1]) (r := []) (p := t < 10) rfl rfl rfl rfl (show t < 10 from by omega) (zs150 (c := c) (by omega) x 1 t hG (by omega)) ?_
    rintro _ _ _ ⟨r4, rfl, rfl, rfl, hr5⟩
    show wW (zK sc) zM148 15 [(0, .inr (.inr (.inl (some (26, t))))), (1, .inl x)] [.inl r4] _ _ _
    refine ww_if (t := 34) rfl rfl (by omega) (fun (h6 : r4 ≠ 0) => ?_) (fun (h6 : ¬ (r4 ≠ 0)) => ?_)
    · show wW (zK sc) zM148 34 [(0, .inr (.inr (.inl (some (26, t))))), (1, .inl x)] [] _ _ _
      refine ww_go 2 (pc' := 39) (L' := [(0, .inr (.inr (.inl (some (26, t))))), (1, .inl x)]) (st' := [.inl 1]) (m' := m) (o := none) rfl trivial ?_
      exact ww_rB rfl rfl (by omega) ⟨_, rfl, rfl, rfl, by omega⟩
    · show wW (zK sc) zM148 18 [(0, .inr (.inr (.inl (some (26, t))))), (1, .inl x)] [] _ _ _
      refine ww_go 4 (pc' := 24) (L' := [(0, .inr (.inr (.inl (some (26, t))))), (1, .inl x)]) (st' := [.inr (.inr (.inl (some (1, 101 + 7 * t + x.toNat))))]) (m' := m) (o := some ((t < 10) ∧ (t < 10 ∧ 0 ≤ x ∧ x < ((7 : Nat) : Int)))) rfl (show (t < 10) ∧ (t < 10 ∧ 0 ≤ x ∧ x < ((7 : Nat) : Int)) from by omega) ?_
      refine ww_call (vs := [.inr (.inr (.inl (some (1, 101 + 7 * t + x.toNat))))]) (r := []) (p := 101 + 7 * t + x.toNat < 171) rfl rfl rfl rfl (show 101 + 7 * t + x.toNat < 171 from by omega) (zs40 (c := c) (by omega) (101 + 7 * t + x.toNat) hG (by omega)) ?_
      rintro _ _ _ ⟨r7, rfl, rfl, rfl, hr8⟩
      show wW (zK sc) zM148 27 [(0, .inr (.inr (.inl (some (26, t))))), (1, .inl x)] [.inl r7] _ _ _
      refine ww_call (vs := [.inl r7]) (r := []) (p := True) rfl rfl rfl rfl trivial (zs42 r7 (by omega)) ?_
      rintro _ _ _ ⟨r9, rfl, rfl, rfl, hr10⟩
      show wW (zK sc) zM148 30 [(0, .inr (.inr (.inl (some (26, t))))), (1, .inl x)] [.inl r9] _ _ _
      refine ww_go 1 (pc' := 31) (L' := [(0, .inr (.inr (.inl (some (26, t))))), (1, .inl x)]) (st' := [.inl 1, .inl r9]) (m' := m) (o := none) rfl trivial ?_
      refine ww_ic (t := 38) rfl rfl (by omega) (fun (h11 : r9 ≠ 1) => ?_) (fun (h11 : ¬ (r9 ≠ 1)) => ?_)
      · show wW (zK sc) zM148 38 [(0, .inr (.inr (.inl (some (26, t))))), (1, .inl x)] [] _ _ _
        refine ww_go 1 (pc' := 39) (L' := [(0, .inr (.inr (.inl (some (26, t))))), (1, .inl x)]) (st' := [.inl 0]) (m' := m) (o := none) rfl trivial ?_
        exact ww_rB rfl rfl (by omega) ⟨_, rfl, rfl, rfl, by omega⟩
      · show wW (zK sc) zM148 34 [(0, .inr (.inr (.inl (some (26, t))))), (1, .inl x)] [] _ _ _
        refine ww_go 2 (pc' := 39) (L' := [(0, .inr (.inr (.inl (some (26, t))))), (1, .inl x)]) (st' := [.inl 1]) (m' := m) (o := none) rfl trivial ?_
        exact ww_rB rfl rfl (by omega) ⟨_, rfl, rfl, rfl, by omega⟩
set_option maxRecDepth 8000 in
theorem zs151_l2 {sc : xSc} {n : Nat × Nat} {m : wm} {c : Int} (hc : 0 ≤ c ∧ c ≤ 1000000) (t : Nat) (hG : zB c m) (h0 : t < 10) : ∀ (d : Nat), ∀ (x : Int), (7 - x).toNat = d → (1 ≤ x ∧ x ≤ 7) →  wW (zK sc) zM151 2 [(0, .inr (.inr (.inl (some (26, t))))), (1, .inl x)] [] n m (wr (fun vv n1 m1 => ∃ r : Int, vv = some (.inl r) ∧ n = n1 ∧ m = m1 ∧ (0 ≤ r ∧ r ≤ 1))) := by
  intro d
  induction d using Nat.strongRecOn with
  | ind d ih =>
    intro x hd hi
    have b1 : 0 ≤ m.1 26 t 9 ∧ m.1 26 t 9 ≤ 6 := hG.1 26 _ rfl _ _
    refine ww_go 3 (pc' := 7) (L' := [(0, .inr (.inr (.inl (some (26, t))))), (1, .inl x)]) (st' := [.inl (m.1 26 t 9), .inl x]) (m' := m) (o := some ((t < 10))) rfl (show (t < 10) from by omega) ?_
    refine ww_ic (t := 27) rfl rfl (by omega) (fun (h2 : m.1 26 t 9 < x) => ?_) (fun (h2 : ¬ (m.1 26 t 9 < x)) => ?_)
    · show wW (zK sc) zM151 27 [(0, .inr (.inr (.inl (some (26, t))))), (1, .inl x)] [] _ _ _
      have b3 : 0 ≤ m.1 26 t 10 ∧ m.1 26 t 10 ≤ 1 := hG.1 26 _ rfl _ _
      refine ww_go 2 (pc' := 31) (L' := [(0, .inr (.inr (.inl (some (26, t))))), (1, .inl x)]) (st' := [.inl (m.1 26 t 10)]) (m' := m) (o := some ((t < 10))) rfl (show (t < 10) from by omega) ?_
      exact ww_rB rfl rfl (by omega) ⟨_, rfl, rfl, rfl, by omega⟩
    · show wW (zK sc) zM151 10 [(0, .inr (.inr (.inl (some (26, t))))), (1, .inl x)] [] _ _ _
      have b4 : 0 ≤ m.1 29 t x.toNat ∧ m.1 29 t x.toNat ≤ 1 := hG.1 29 _ rfl _ _
      refine ww_go 4 (pc' := 16) (L' := [(0, .inr (.inr (.inl (some (26, t))))), (1, .inl x)]) (st' := [.inl (m.1 29 t x.toNat)]) (m' := m) (o := some ((t < 10) ∧ (t < 10 ∧ 0 ≤ x ∧ x < ((7 : Nat) : Int)))) rfl (show (t < 10) ∧ (t < 10 ∧ 0 ≤ x ∧ x < ((7 : Nat) : Int)) from by omega) ?_
      refine ww_if (t := 21) rfl rfl (by omega) (fun (h5 : m.1 29 t x.toNat ≠ 0) => ?_) (fun (h5 : ¬ (m.1 29 t x.toNat ≠ 0)) => ?_)
      · show wW (zK sc) zM151 21 [(0, .inr (.inr (.inl (some (26, t))))), (1, .inl x)] [] _ _ _
        refine ww_go 2 (pc' := 2) (L' := [(1, .inl (x + 1)), (0, .inr (.inr (.inl (some (26, t)))))]) (st' := []) (m' := m) (o := none) rfl trivial ?_
        refine ww_sub (L := [(0, .inr (.inr (.inl (some (26, t))))), (1, .inl (x + 1))]) ⟨rfl, rfl, trivial⟩ rfl rfl ?_
        exact (ih _ (by omega)) (x + 1) rfl (by omega)
      · show wW (zK sc) zM151 19 [(0, .inr (.inr (.inl (some (26, t))))), (1, .inl x)] [] _ _ _
        refine ww_go 1 (pc' := 20) (L' := [(0, .inr (.inr (.inl (some (26, t))))), (1, .inl x)]) (st' := [.inl 0]) (m' := m) (o := none) rfl trivial ?_
        exact ww_rB rfl rfl (by omega) ⟨_, rfl, rfl, rfl, by omega⟩
set_option maxRecDepth 8000 in
/-- Version.isWhole -/
theorem zs151 {sc : xSc} {n : Nat × Nat} {m : wm} {c : Int} (hc : 0 ≤ c ∧ c ≤ 1000000) (t : Nat) (hG : zB c m) (h0 : t < 10) : wX (zK sc) 151 [.inr (.inr (.inl (some (26, t))))] n m (wr (fun vv n1 m1 => ∃ r : Int, vv = some (.inl r) ∧ n = n1 ∧ m = m1 ∧ (0 ≤ r ∧ r ≤ 1))) := by
  refine wX_of (N := zM151) rfl (Nat.le_of_ble_eq_true rfl) ?_
  show wW (zK sc) zM151 0 [(0, .inr (.inr (.inl (some (26, t)))))] [] n m _
  refine ww_go 2 (pc' := 2) (L' := [(1, .inl 1), (0, .inr (.inr (.inl (some (26, t)))))]) (st' := []) (m' := m) (o := none) rfl trivial ?_
  refine ww_sub (L := [(0, .inr (.inr (.inl (some (26, t))))), (1, .inl 1)]) ⟨rfl, rfl, trivial⟩ rfl rfl ?_
  exact (zs151_l2 hc t hG h0 _) 1 rfl (by omega)
set_option maxRecDepth 8000 in
/-- Version.nameSize -/
theorem zs154 {sc : xSc} {n : Nat × Nat} {m : wm} {c : Int} (hc : 0 ≤ c ∧ c ≤ 1000000) (x : Int) (t : Nat) (hG : zB c m) (h0 : t < 10 ∧ 0 ≤ x ∧ x ≤ 5) : wX (zK sc) 154 [.inr (.inr (.inl (some (26, t)))), .inl x] n m (wr (fun vv n1 m1 => ∃ r : Int, vv = some (.inl r) ∧ n = n1 ∧ m = m1 ∧ (0 ≤ r ∧ r ≤ 255))) := by
  refine wX_of (N := zM154) rfl (Nat.le_of_ble_eq_true rfl) ?_
  show wW (zK sc) zM154 0 [(0, .inr (.inr (.inl (some (26, t))))), (1, .inl x)] [] n m _
  have b1 : 0 ≤ m.1 31 t x.toNat ∧ m.1 31 t x.toNat ≤ 255 := hG.1 31 _ rfl _ _
  refine ww_go 4 (pc' := 6) (L' := [(0, .inr (.inr (.inl (some (26, t))))), (1, .inl x)]) (st' := [.inl (m.1 31 t x.toNat)]) (m' := m) (o := some ((t < 10) ∧ (t < 10 ∧ 0 ≤ x ∧ x < ((6 : Nat) : Int)))) rfl (show (t < 10) ∧ (t < 10 ∧ 0 ≤ x ∧ x < ((6 : Nat) : Int)) from by omega) ?_
  exact ww_rI rfl rfl ⟨_, rfl, rfl, rfl, by omega⟩
set_option maxRecDepth 8000 in
/-- Version.namePlace -/
theorem zs153 {sc : xSc} {n : Nat × Nat} {m : wm} {c : Int} (hc : 0 ≤ c ∧ c ≤ 1000000) (x : Int) (t : Nat) (hG : zB c m) (h0 : t < 10 ∧ 0 ≤ x ∧ x ≤ 5) : wX (zK sc) 153 [.inr (.inr (.inl (some (26, t)))), .inl x] n m (wr (fun vv n1 m1 => ∃ r : Int, vv = some (.inl r) ∧ n = n1 ∧ m = m1 ∧ (0 ≤ r ∧ r ≤ 10000))) := by
  refine wX_of (N := zM153) rfl (Nat.le_of_ble_eq_true rfl) ?_
  show wW (zK sc) zM153 0 [(0, .inr (.inr (.inl (some (26, t))))), (1, .inl x)] [] n m _
  have b1 : 0 ≤ m.1 30 t x.toNat ∧ m.1 30 t x.toNat ≤ 10000 := hG.1 30 _ rfl _ _
  refine ww_go 4 (pc' := 6) (L' := [(0, .inr (.inr (.inl (some (26, t))))), (1, .inl x)]) (st' := [.inl (m.1 30 t x.toNat)]) (m' := m) (o := some ((t < 10) ∧ (t < 10 ∧ 0 ≤ x ∧ x < ((6 : Nat) : Int)))) rfl (show (t < 10) ∧ (t < 10 ∧ 0 ≤ x ∧ x < ((6 : Nat) : Int)) from by omega) ?_
  exact ww_rI rfl rfl ⟨_, rfl, rfl, rfl, by omega⟩
set_option maxRecDepth 8000 in
/-- Version.fileSize -/
theorem zs140 {sc : xSc} {n : Nat × Nat} {m : wm} {c : Int} (hc : 0 ≤ c ∧ c ≤ 1000000) (x : Int) (t : Nat) (hG : zB c m) (h0 : t < 10 ∧ 0 ≤ x ∧ x ≤ 5) : wX (zK sc) 140 [.inr (.inr (.inl (some (26, t)))), .inl x] n m (wr (fun vv n1 m1 => ∃ r : Int, vv = some (.inl r) ∧ n = n1 ∧ m = m1 ∧ (0 ≤ r ∧ r ≤ 255))) := by
  refine wX_of (N := zM140) rfl (Nat.le_of_ble_eq_true rfl) ?_
  show wW (zK sc) zM140 0 [(0, .inr (.inr (.inl (some (26, t))))), (1, .inl x)] [] n m _
  have b1 : 0 ≤ m.1 32 t x.toNat ∧ m.1 32 t x.toNat ≤ 255 := hG.1 32 _ rfl _ _
  refine ww_go 4 (pc' := 6) (L' := [(0, .inr (.inr (.inl (some (26, t))))), (1, .inl x)]) (st' := [.inl (m.1 32 t x.toNat)]) (m' := m) (o := some ((t < 10) ∧ (t < 10 ∧ 0 ≤ x ∧ x < ((6 : Nat) : Int)))) rfl (show (t < 10) ∧ (t < 10 ∧ 0 ≤ x ∧ x < ((6 : Nat) : Int)) from by omega) ?_
  exact ww_rI rfl rfl ⟨_, rfl, rfl, rfl, by omega⟩
set_option maxRecDepth 8000 in
/-- Version.isBehindLast -/
theorem zs147 {sc : xSc} {n : Nat × Nat} {m : wm} {c : Int} (hc : 0 ≤ c ∧ c ≤ 1000000) (x : Int) (t : Nat) (hG : zB c m) (h0 : t < 10 ∧ 0 ≤ x ∧ x ≤ 5) : wX (zK sc) 147 [.inr (.inr (.inl (some (26, t)))), .inl x] n m (wr (fun vv n1 m1 => ∃ r : Int, vv = some (.inl r) ∧ n = n1 ∧ m = m1 ∧ (0 ≤ r ∧ r ≤ 1))) := by
  refine wX_of (N := zM147) rfl (Nat.le_of_ble_eq_true rfl) ?_
  show wW (zK sc) zM147 0 [(0, .inr (.inr (.inl (some (26, t))))), (1, .inl x)] [] n m _
  refine ww_go 1 (pc' := 1) (L' := [(0, .inr (.inr (.inl (some (26, t))))), (1, .inl x)]) (st' := [.inl x]) (m' := m) (o := none) rfl trivial ?_
  refine ww_if (t := 50) rfl rfl (by omega) (fun (h1 : x = 0) => ?_) (fun (h1 : ¬ (x = 0)) => ?_)
  · show wW (zK sc) zM147 50 [(0, .inr (.inr (.inl (some (26, t))))), (1, .inl x)] [] _ _ _
    refine ww_go 2 (pc' := 55) (L' := [(0, .inr (.inr (.inl (some (26, t))))), (1, .inl x)]) (st' := [.inl 1]) (m' := m) (o := none) rfl trivial ?_
    exact ww_rB rfl rfl (by omega) ⟨_, rfl, rfl, rfl, by omega⟩
  · show wW (zK sc) zM147 4 [(0, .inr (.inr (.inl (some (26, t))))), (1, .inl x)] [] _ _ _
    have b2 : 0 ≤ m.1 30 t ((x - 1).toNat) ∧ m.1 30 t ((x - 1).toNat) ≤ 10000 := hG.1 30 _ rfl _ _
    have b3 : 0 ≤ m.1 31 t ((x - 1).toNat) ∧ m.1 31 t ((x - 1).toNat) ≤ 255 := hG.1 31 _ rfl _ _
    have b4 : 0 ≤ m.1 30 t x.toNat ∧ m.1 30 t x.toNat ≤ 10000 := hG.1 30 _ rfl _ _
    have b5 : 0 ≤ m.1 31 t x.toNat ∧ m.1 31 t x.toNat ≤ 255 := hG.1 31 _ rfl _ _
    refine ww_go 28 (pc' := 44) (L' := [(0, .inr (.inr (.inl (some (26, t))))), (1, .inl x)]) (st' := [.inl (m.1 31 t x.toNat), .inl (m.1 30 t x.toNat), .inr (.inr (.inl (some (1, 101 + 7 * t + 0)))), .inl (m.1 31 t ((x - 1).toNat)), .inl (m.1 30 t ((x - 1).toNat)), .inr (.inr (.inl (some (1, 101 + 7 * t + 0))))]) (m' := m) (o := some ((t < 10) ∧ (t < 10 ∧ 0 ≤ (0 : Int) ∧ (0 : Int) < ((7 : Nat) : Int)) ∧ (t < 10) ∧ (t < 10 ∧ 0 ≤ x - 1 ∧ x - 1 < ((6 : Nat) : Int)) ∧ (t < 10) ∧ (t < 10 ∧ 0 ≤ x - 1 ∧ x - 1 < ((6 : Nat) : Int)) ∧ (t < 10) ∧ (t < 10 ∧ 0 ≤ (0 : Int) ∧ (0 : Int) < ((7 : Nat) : Int)) ∧ (t < 10) ∧ (t < 10 ∧ 0 ≤ x ∧ x < ((6 : Nat) : Int)) ∧ (t < 10) ∧ (t < 10 ∧ 0 ≤ x ∧ x < ((6 : Nat) : Int)))) rfl (show (t < 10) ∧ (t < 10 ∧ 0 ≤ (0 : Int) ∧ (0 : Int) < ((7 : Nat) : Int)) ∧ (t < 10) ∧ (t < 10 ∧ 0 ≤ x - 1 ∧ x - 1 < ((6 : Nat) : Int)) ∧ (t < 10) ∧ (t < 10 ∧ 0 ≤ x - 1 ∧ x - 1 < ((6 : Nat) : Int)) ∧ (t < 10) ∧ (t < 10 ∧ 0 ≤ (0 : Int) ∧ (0 : Int) < ((7 : Nat) : Int)) ∧ (t < 10) ∧ (t < 10 ∧ 0 ≤ x ∧ x < ((6 : Nat) : Int)) ∧ (t < 10) ∧ (t < 10 ∧ 0 ≤ x ∧ x < ((6 : Nat) : Int)) from by omega) ?_
    refine ww_call (vs := [.inr (.inr (.inl (some (1, 101 + 7 * t + 0)))), .inl (m.1 30 t ((x - 1).toNat)), .inl (m.1 31 t ((x - 1).toNat)), .inr (.inr (.inl (some (1, 101 + 7 * t + 0)))), .inl (m.1 30 t x.toNat), .inl (m.1 31 t x.toNat)]) (r := []) (p := 101 + 7 * t + 0 < 171) rfl rfl rfl rfl (show 101 + 7 * t + 0 < 171 from by omega) (zs31 (c := c) (by omega) (m.1 30 t ((x - 1).toNat)) (m.1 31 t ((x - 1).toNat)) (m.1 30 t x.toNat) (m.1 31 t x.toNat) (101 + 7 * t + 0) (101 + 7 * t + 0) hG (by omega)) ?_
    rintro _ _ _ ⟨r6, rfl, rfl, rfl, hr7⟩
    show wW (zK sc) zM147 47 [(0, .inr (.inr (.inl (some (26, t))))), (1, .inl x)] [.inl r6] _ _ _
    refine ww_if (t := 54) rfl rfl (by omega) (fun (h8 : 0 ≤ r6) => ?_) (fun (h8 : ¬ (0 ≤ r6)) => ?_)
    · show wW (zK sc) zM147 54 [(0, .inr (.inr (.inl (some (26, t))))), (1, .inl x)] [] _ _ _
      refine ww_go 1 (pc' := 55) (L' := [(0, .inr (.inr (.inl (some (26, t))))), (1, .inl x)]) (st' := [.inl 0]) (m' := m) (o := none) rfl trivial ?_
      exact ww_rB rfl rfl (by omega) ⟨_, rfl, rfl, rfl, by omega⟩
    · show wW (zK sc) zM147 50 [(0, .inr (.inr (.inl (some (26, t))))), (1, .inl x)] [] _ _ _
      refine ww_go 2 (pc' := 55) (L' := [(0, .inr (.inr (.inl (some (26, t))))), (1, .inl x)]) (st' := [.inl 1]) (m' := m) (o := none) rfl trivial ?_
      exact ww_rB rfl rfl (by omega) ⟨_, rfl, rfl, rfl, by omega⟩
set_option maxRecDepth 8000 in
theorem zs156_l41 {sc : xSc} {n : Nat × Nat} {m0 : wm} {c : Int} (hc : 0 ≤ c ∧ c ≤ 1000000) (t : Nat) (hG : zB c m0) (h0 : t < 10) : ∀ (d : Nat), ∀ (y : Int) (z : Int) (w : Int) (m : wm), (6 - w).toNat = d → zB c m → zfr (fun k i j => (k = 26 ∧ i = t) ∨ (k = 30 ∧ i = t) ∨ (k = 31 ∧ i = t) ∨ (k = 32 ∧ i = t) ∨ (k = 33 ∧ i = t)) m0 m → (0 ≤ y ∧ y ≤ 6 ∧ 0 ≤ w ∧ w ≤ 6 ∧ 3 ≤ z ∧ z ≤ 3 + 300 * w) →  wW (zK sc) zM156 41 [(0, .inr (.inr (.inl (some (26, t))))), (1, .inr (.inr (.inl (some (1, 101 + 7 * t + 0))))), (2, .inl y), (3, .inl z), (4, .inl w)] [] n m (wr (fun vv n1 m1 => ∃ r : Int, vv = some (.inl r) ∧ n = n1 ∧ zB c m1 ∧ zfr (fun k i j => (k = 26 ∧ i = t) ∨ (k = 30 ∧ i = t) ∨ (k = 31 ∧ i = t) ∨ (k = 32 ∧ i = t) ∨ (k = 33 ∧ i = t)) m0 m1 ∧ (0 ≤ r ∧ r ≤ 1))) := by
  intro d
  induction d using Nat.strongRecOn with
  | ind d ih =>
    intro y z w m hd hGm hFm hi
    have zl9 := zlim_le (101 + 7 * t + 0)
    refine ww_go 2 (pc' := 44) (L' := [(0, .inr (.inr (.inl (some (26, t))))), (1, .inr (.inr (.inl (some (1, 101 + 7 * t + 0))))), (2, .inl y), (3, .inl z), (4, .inl w)]) (st' := [.inl y, .inl w]) (m' := m) (o := none) rfl trivial ?_
    refine ww_ic (t := 162) rfl rfl (by omega) (fun (h1 : y ≤ w) => ?_) (fun (h1 : ¬ (y ≤ w)) => ?_)
    · show wW (zK sc) zM156 162 [(0, .inr (.inr (.inl (some (26, t))))), (1, .inr (.inr (.inl (some (1, 101 + 7 * t + 0))))), (2, .inl y), (3, .inl z), (4, .inl w)] [] _ _ _
      refine ww_go 2 (pc' := 164) (L' := [(0, .inr (.inr (.inl (some (26, t))))), (1, .inr (.inr (.inl (some (1, 101 + 7 * t + 0))))), (2, .inl y), (3, .inl z), (4, .inl w)]) (st' := [.inr (.inr (.inl (some (1, 101 + 7 * t + 0)))), .inl z]) (m' := m) (o := none) rfl trivial ?_
      refine ww_call (vs := [.inr (.inr (.inl (some (1, 101 + 7 * t + 0))))]) (r := [.inl z]) (p := 101 + 7 * t + 0 < 171) rfl rfl rfl rfl (show 101 + 7 * t + 0 < 171 from by omega) (zs40 (c := c) (by omega) (101 + 7 * t + 0) hGm (by omega)) ?_
      rintro _ _ _ ⟨r2, rfl, rfl, rfl, hr3⟩
      show wW (zK sc) zM156 167 [(0, .inr (.inr (.inl (some (26, t))))), (1, .inr (.inr (.inl (some (1, 101 + 7 * t + 0))))), (2, .inl y), (3, .inl z), (4, .inl w)] [.inl r2, .inl z] _ _ _
      refine ww_ic (t := 172) rfl rfl (by omega) (fun (h4 : z = r2) => ?_) (fun (h4 : ¬ (z = r2)) => ?_)
      · show wW (zK sc) zM156 172 [(0, .inr (.inr (.inl (some (26, t))))), (1, .inr (.inr (.inl (some (1, 101 + 7 * t + 0))))), (2, .inl y), (3, .inl z), (4, .inl w)] [] _ _ _
        refine ww_go 3 (pc' := 177) (L' := [(0, .inr (.inr (.inl (some (26, t))))), (1, .inr (.inr (.inl (some (1, 101 + 7 * t + 0))))), (2, .inl y), (3, .inl z), (4, .inl w)]) (st' := []) (m' := wuI m 26 t 9 y) (o := some ((t < 10))) rfl (show (t < 10) from by omega) ?_
        obtain ⟨m5, hm5⟩ : ∃ zq9 : wm, zq9 = wuI m 26 t 9 y := ⟨_, rfl⟩
        rw [← hm5]
        have hGm5 : zB c m5 := by rw [hm5]; exact zB_wI rfl (show 0 ≤ y ∧ y ≤ 6 from by omega) hGm
        have hFm5 : zfr (fun k i j => (k = 26 ∧ i = t) ∨ (k = 30 ∧ i = t) ∨ (k = 31 ∧ i = t) ∨ (k = 32 ∧ i = t) ∨ (k = 33 ∧ i = t)) m0 m5 := by rw [hm5]; exact zfr_wI hFm (show (26 = 26 ∧ t = t) ∨ (26 = 30 ∧ t = t) ∨ (26 = 31 ∧ t = t) ∨ (26 = 32 ∧ t = t) ∨ (26 = 33 ∧ t = t) from Or.inl (⟨rfl, rfl⟩))
        have s6 : m5.1 26 t 9 = y := by rw [hm5]; exact wuI_self
        refine ww_go 3 (pc' := 182) (L' := [(0, .inr (.inr (.inl (some (26, t))))), (1, .inr (.inr (.inl (some (1, 101 + 7 * t + 0))))), (2, .inl y), (3, .inl z), (4, .inl w)]) (st' := []) (m' := wuI m5 26 t 10 1) (o := some ((t < 10 ∧ 0 ≤ (1 : Int) ∧ (1 : Int) ≤ 1))) rfl (show (t < 10 ∧ 0 ≤ (1 : Int) ∧ (1 : Int) ≤ 1) from by omega) ?_
        obtain ⟨m7, hm7⟩ : ∃ zq9 : wm, zq9 = wuI m5 26 t 10 1 := ⟨_, rfl⟩
        rw [← hm7]
        have hGm7 : zB c m7 := by rw [hm7]; exact zB_wI rfl (show 0 ≤ (1 : Int) ∧ (1 : Int) ≤ 1 from by omega) hGm5
        have hFm7 : zfr (fun k i j => (k = 26 ∧ i = t) ∨ (k = 30 ∧ i = t) ∨ (k = 31 ∧ i = t) ∨ (k = 32 ∧ i = t) ∨ (k = 33 ∧ i = t)) m0 m7 := by rw [hm7]; exact zfr_wI hFm5 (show (26 = 26 ∧ t = t) ∨ (26 = 30 ∧ t = t) ∨ (26 = 31 ∧ t = t) ∨ (26 = 32 ∧ t = t) ∨ (26 = 33 ∧ t = t) from Or.inl (⟨rfl, rfl⟩))
        have s8 : m7.1 26 t 10 = (1 : Int) := by rw [hm7]; exact wuI_self
        refine ww_go 1 (pc' := 183) (L' := [(0, .inr (.inr (.inl (some (26, t))))), (1, .inr (.inr (.inl (some (1, 101 + 7 * t + 0))))), (2, .inl y), (3, .inl z), (4, .inl w)]) (st' := [.inl 1]) (m' := m7) (o := none) rfl trivial ?_
        exact ww_rB rfl rfl (by omega) ⟨_, rfl, rfl, zB_mono hGm7 (by omega), hFm7, by omega⟩
      · show wW (zK sc) zM156 170 [(0, .inr (.inr (.inl (some (26, t))))), (1, .inr (.inr (.inl (some (1, 101 + 7 * t + 0))))), (2, .inl y), (3, .inl z), (4, .inl w)] [] _ _ _
        refine ww_go 1 (pc' := 171) (L' := [(0, .inr (.inr (.inl (some (26, t))))), (1, .inr (.inr (.inl (some (1, 101 + 7 * t + 0))))), (2, .inl y), (3, .inl z), (4, .inl w)]) (st' := [.inl 0]) (m' := m) (o := none) rfl trivial ?_
        exact ww_rB rfl rfl (by omega) ⟨_, rfl, rfl, zB_mono hGm (by omega), hFm, by omega⟩
    · show wW (zK sc) zM156 47 [(0, .inr (.inr (.inl (some (26, t))))), (1, .inr (.inr (.inl (some (1, 101 + 7 * t + 0))))), (2, .inl y), (3, .inl z), (4, .inl w)] [] _ _ _
      refine ww_go 7 (pc' := 57) (L' := [(0, .inr (.inr (.inl (some (26, t))))), (1, .inr (.inr (.inl (some (1, 101 + 7 * t + 0))))), (2, .inl y), (3, .inl z), (4, .inl w)]) (st' := []) (m' := wuI m 30 t w.toNat (z + 1)) (o := some ((t < 10) ∧ (t < 10 ∧ 0 ≤ w ∧ w < ((6 : Nat) : Int)))) rfl (show (t < 10) ∧ (t < 10 ∧ 0 ≤ w ∧ w < ((6 : Nat) : Int)) from by omega) ?_
      obtain ⟨m9, hm9⟩ : ∃ zq9 : wm, zq9 = wuI m 30 t w.toNat (z + 1) := ⟨_, rfl⟩
      rw [← hm9]
      have hGm9 : zB c m9 := by rw [hm9]; exact zB_wI rfl (show 0 ≤ z + 1 ∧ z + 1 ≤ 10000 from by omega) hGm
      have hFm9 : zfr (fun k i j => (k = 26 ∧ i = t) ∨ (k = 30 ∧ i = t) ∨ (k = 31 ∧ i = t) ∨ (k = 32 ∧ i = t) ∨ (k = 33 ∧ i = t)) m0 m9 := by rw [hm9]; exact zfr_wI hFm (show (30 = 26 ∧ t = t) ∨ (30 = 30 ∧ t = t) ∨ (30 = 31 ∧ t = t) ∨ (30 = 32 ∧ t = t) ∨ (30 = 33 ∧ t = t) from Or.inr (Or.inl (⟨rfl, rfl⟩)))
      have s10 : m9.1 30 t w.toNat = z + 1 := by rw [hm9]; exact wuI_self
      refine ww_go 5 (pc' := 65) (L' := [(0, .inr (.inr (.inl (some (26, t))))), (1, .inr (.inr (.inl (some (1, 101 + 7 * t + 0))))), (2, .inl y), (3, .inl z), (4, .inl w)]) (st' := [.inl z, .inr (.inr (.inl (some (1, 101 + 7 * t + 0)))), .inl w, .inr (.inr (.inl (some (31, t))))]) (m' := m9) (o := some ((t < 10))) rfl (show (t < 10) from by omega) ?_
      refine ww_call (vs := [.inr (.inr (.inl (some (1, 101 + 7 * t + 0)))), .inl z]) (r := [.inl w, .inr (.inr (.inl (some (31, t))))]) (p := 101 + 7 * t + 0 < 171) rfl rfl rfl rfl (show 101 + 7 * t + 0 < 171 from by omega) (zs28 (c := c) (by omega) z (101 + 7 * t + 0) hGm9 (by omega)) ?_
      rintro _ _ _ ⟨r11, rfl, rfl, rfl, hr12⟩
      show wW (zK sc) zM156 68 [(0, .inr (.inr (.inl (some (26, t))))), (1, .inr (.inr (.inl (some (1, 101 + 7 * t + 0))))), (2, .inl y), (3, .inl z), (4, .inl w)] [.inl r11, .inl w, .inr (.inr (.inl (some (31, t))))] _ _ _
      refine ww_go 1 (pc' := 69) (L' := [(0, .inr (.inr (.inl (some (26, t))))), (1, .inr (.inr (.inl (some (1, 101 + 7 * t + 0))))), (2, .inl y), (3, .inl z), (4, .inl w)]) (st' := []) (m' := wuI m9 31 t w.toNat r11) (o := some ((t < 10 ∧ 0 ≤ w ∧ w < ((6 : Nat) : Int)))) rfl (show (t < 10 ∧ 0 ≤ w ∧ w < ((6 : Nat) : Int)) from by omega) ?_
      obtain ⟨m13, hm13⟩ : ∃ zq9 : wm, zq9 = wuI m9 31 t w.toNat r11 := ⟨_, rfl⟩
      rw [← hm13]
      have hGm13 : zB c m13 := by rw [hm13]; exact zB_wI rfl (show 0 ≤ r11 ∧ r11 ≤ 255 from by omega) hGm9
      have hFm13 : zfr (fun k i j => (k = 26 ∧ i = t) ∨ (k = 30 ∧ i = t) ∨ (k = 31 ∧ i = t) ∨ (k = 32 ∧ i = t) ∨ (k = 33 ∧ i = t)) m0 m13 := by rw [hm13]; exact zfr_wI hFm9 (show (31 = 26 ∧ t = t) ∨ (31 = 30 ∧ t = t) ∨ (31 = 31 ∧ t = t) ∨ (31 = 32 ∧ t = t) ∨ (31 = 33 ∧ t = t) from Or.inr (Or.inr (Or.inl (⟨rfl, rfl⟩))))
      have s14 : m13.1 31 t w.toNat = r11 := by rw [hm13]; exact wuI_self
      have b15 : 0 ≤ m13.1 31 t w.toNat ∧ m13.1 31 t w.toNat ≤ 255 := hGm13.1 31 _ rfl _ _
      refine ww_go 14 (pc' := 89) (L' := [(3, .inl (z + (1 + (m13.1 31 t w.toNat)))), (0, .inr (.inr (.inl (some (26, t))))), (1, .inr (.inr (.inl (some (1, 101 + 7 * t + 0))))), (2, .inl y), (4, .inl w)]) (st' := [.inl (z + (1 + (m13.1 31 t w.toNat))), .inr (.inr (.inl (some (1, 101 + 7 * t + 0)))), .inl w, .inr (.inr (.inl (some (32, t))))]) (m' := m13) (o := some ((t < 10) ∧ (t < 10 ∧ 0 ≤ w ∧ w < ((6 : Nat) : Int)) ∧ (t < 10))) rfl (show (t < 10) ∧ (t < 10 ∧ 0 ≤ w ∧ w < ((6 : Nat) : Int)) ∧ (t < 10) from by omega) ?_
      refine ww_call (vs := [.inr (.inr (.inl (some (1, 101 + 7 * t + 0)))), .inl (z + (1 + (m13.1 31 t w.toNat)))]) (r := [.inl w, .inr (.inr (.inl (some (32, t))))]) (p := 101 + 7 * t + 0 < 171) rfl rfl rfl rfl (show 101 + 7 * t + 0 < 171 from by omega) (zs28 (c := c) (by omega) (z + (1 + (m13.1 31 t w.toNat))) (101 + 7 * t + 0) hGm13 (by omega)) ?_
      rintro _ _ _ ⟨r16, rfl, rfl, rfl, hr17⟩
      show wW (zK sc) zM156 92 [(3, .inl (z + (1 + (m13.1 31 t w.toNat)))), (0, .inr (.inr (.inl (some (26, t))))), (1, .inr (.inr (.inl (some (1, 101 + 7 * t + 0))))), (2, .inl y), (4, .inl w)] [.inl r16, .inl w, .inr (.inr (.inl (some (32, t))))] _ _ _
      refine ww_go 1 (pc' := 93) (L' := [(3, .inl (z + (1 + (m13.1 31 t w.toNat)))), (0, .inr (.inr (.inl (some (26, t))))), (1, .inr (.inr (.inl (some (1, 101 + 7 * t + 0))))), (2, .inl y), (4, .inl w)]) (st' := []) (m' := wuI m13 32 t w.toNat r16) (o := some ((t < 10 ∧ 0 ≤ w ∧ w < ((6 : Nat) : Int)))) rfl (show (t < 10 ∧ 0 ≤ w ∧ w < ((6 : Nat) : Int)) from by omega) ?_
      obtain ⟨m18, hm18⟩ : ∃ zq9 : wm, zq9 = wuI m13 32 t w.toNat r16 := ⟨_, rfl⟩
      rw [← hm18]
      have hGm18 : zB c m18 := by rw [hm18]; exact zB_wI rfl (show 0 ≤ r16 ∧ r16 ≤ 255 from by omega) hGm13
      have hFm18 : zfr (fun k i j => (k = 26 ∧ i = t) ∨ (k = 30 ∧ i = t) ∨ (k = 31 ∧ i = t) ∨ (k = 32 ∧ i = t) ∨ (k = 33 ∧ i = t)) m0 m18 := by rw [hm18]; exact zfr_wI hFm13 (show (32 = 26 ∧ t = t) ∨ (32 = 30 ∧ t = t) ∨ (32 = 31 ∧ t = t) ∨ (32 = 32 ∧ t = t) ∨ (32 = 33 ∧ t = t) from Or.inr (Or.inr (Or.inr (Or.inl (⟨rfl, rfl⟩)))))
      have s19 : m18.1 32 t w.toNat = r16 := by rw [hm18]; exact wuI_self
      refine ww_go 8 (pc' := 105) (L' := [(3, .inl (z + (1 + (m13.1 31 t w.toNat)))), (0, .inr (.inr (.inl (some (26, t))))), (1, .inr (.inr (.inl (some (1, 101 + 7 * t + 0))))), (2, .inl y), (4, .inl w)]) (st' := [.inl 8, .inl ((z + (1 + (m13.1 31 t w.toNat))) + 1), .inr (.inr (.inl (some (1, 101 + 7 * t + 0)))), .inl w, .inr (.inr (.inl (some (33, t))))]) (m' := m18) (o := some ((t < 10))) rfl (show (t < 10) from by omega) ?_
      refine ww_call (vs := [.inr (.inr (.inl (some (1, 101 + 7 * t + 0)))), .inl ((z + (1 + (m13.1 31 t w.toNat))) + 1), .inl 8]) (r := [.inl w, .inr (.inr (.inl (some (33, t))))]) (p := 101 + 7 * t + 0 < 171) rfl rfl rfl rfl (show 101 + 7 * t + 0 < 171 from by omega) (zs36 (c := c) (by omega) ((z + (1 + (m13.1 31 t w.toNat))) + 1) 8 (101 + 7 * t + 0) hGm18 (by omega)) ?_
      rintro _ _ _ ⟨r20, rfl, rfl, rfl, hr21⟩
      show wW (zK sc) zM156 108 [(3, .inl (z + (1 + (m13.1 31 t w.toNat)))), (0, .inr (.inr (.inl (some (26, t))))), (1, .inr (.inr (.inl (some (1, 101 + 7 * t + 0))))), (2, .inl y), (4, .inl w)] [.inr (.inl r20), .inl w, .inr (.inr (.inl (some (33, t))))] _ _ _
      refine ww_go 1 (pc' := 109) (L' := [(3, .inl (z + (1 + (m13.1 31 t w.toNat)))), (0, .inr (.inr (.inl (some (26, t))))), (1, .inr (.inr (.inl (some (1, 101 + 7 * t + 0))))), (2, .inl y), (4, .inl w)]) (st' := []) (m' := wuL m18 33 t w.toNat r20) (o := some ((t < 10 ∧ 0 ≤ w ∧ w < ((6 : Nat) : Int)))) rfl (show (t < 10 ∧ 0 ≤ w ∧ w < ((6 : Nat) : Int)) from by omega) ?_
      obtain ⟨m22, hm22⟩ : ∃ zq9 : wm, zq9 = wuL m18 33 t w.toNat r20 := ⟨_, rfl⟩
      rw [← hm22]
      have hGm22 : zB c m22 := by rw [hm22]; exact zB_wL hGm18
      have hFm22 : zfr (fun k i j => (k = 26 ∧ i = t) ∨ (k = 30 ∧ i = t) ∨ (k = 31 ∧ i = t) ∨ (k = 32 ∧ i = t) ∨ (k = 33 ∧ i = t)) m0 m22 := by rw [hm22]; exact zfr_wL hFm18 (show (33 = 26 ∧ t = t) ∨ (33 = 30 ∧ t = t) ∨ (33 = 31 ∧ t = t) ∨ (33 = 32 ∧ t = t) ∨ (33 = 33 ∧ t = t) from Or.inr (Or.inr (Or.inr (Or.inr (⟨rfl, rfl⟩)))))
      have b23 : 0 ≤ m22.1 30 t w.toNat ∧ m22.1 30 t w.toNat ≤ 10000 := hGm22.1 30 _ rfl _ _
      have b24 : 0 ≤ m22.1 31 t w.toNat ∧ m22.1 31 t w.toNat ≤ 255 := hGm22.1 31 _ rfl _ _
      refine ww_go 10 (pc' := 127) (L' := [(3, .inl ((z + (1 + (m13.1 31 t w.toNat))) + 9)), (0, .inr (.inr (.inl (some (26, t))))), (1, .inr (.inr (.inl (some (1, 101 + 7 * t + 0))))), (2, .inl y), (4, .inl w)]) (st' := [.inl (m22.1 31 t w.toNat), .inl (m22.1 30 t w.toNat), .inr (.inr (.inl (some (1, 101 + 7 * t + 0))))]) (m' := m22) (o := some ((t < 10) ∧ (t < 10 ∧ 0 ≤ w ∧ w < ((6 : Nat) : Int)) ∧ (t < 10) ∧ (t < 10 ∧ 0 ≤ w ∧ w < ((6 : Nat) : Int)))) rfl (show (t < 10) ∧ (t < 10 ∧ 0 ≤ w ∧ w < ((6 : Nat) : Int)) ∧ (t < 10) ∧ (t < 10 ∧ 0 ≤ w ∧ w < ((6 : Nat) : Int)) from by omega) ?_
      refine ww_call (vs := [.inr (.inr (.inl (some (1, 101 + 7 * t + 0)))), .inl (m22.1 30 t w.toNat), .inl (m22.1 31 t w.toNat)]) (r := []) (p := 101 + 7 * t + 0 < 171) rfl rfl rfl rfl (show 101 + 7 * t + 0 < 171 from by omega) (zs34 (c := c) (by omega) (m22.1 30 t w.toNat) (m22.1 31 t w.toNat) (101 + 7 * t + 0) hGm22 (by omega)) ?_
      rintro _ _ _ ⟨r25, rfl, rfl, rfl, hr26⟩
      show wW (zK sc) zM156 130 [(3, .inl ((z + (1 + (m13.1 31 t w.toNat))) + 9)), (0, .inr (.inr (.inl (some (26, t))))), (1, .inr (.inr (.inl (some (1, 101 + 7 * t + 0))))), (2, .inl y), (4, .inl w)] [.inl r25] _ _ _
      refine ww_if (t := 154) rfl rfl (by omega) (fun (h27 : r25 = 0) => ?_) (fun (h27 : ¬ (r25 = 0)) => ?_)
      · show wW (zK sc) zM156 154 [(3, .inl ((z + (1 + (m13.1 31 t w.toNat))) + 9)), (0, .inr (.inr (.inl (some (26, t))))), (1, .inr (.inr (.inl (some (1, 101 + 7 * t + 0))))), (2, .inl y), (4, .inl w)] [] _ _ _
        refine ww_go 1 (pc' := 155) (L' := [(3, .inl ((z + (1 + (m13.1 31 t w.toNat))) + 9)), (0, .inr (.inr (.inl (some (26, t))))), (1, .inr (.inr (.inl (some (1, 101 + 7 * t + 0))))), (2, .inl y), (4, .inl w)]) (st' := [.inl 0]) (m' := m22) (o := none) rfl trivial ?_
        exact ww_rB rfl rfl (by omega) ⟨_, rfl, rfl, zB_mono hGm22 (by omega), hFm22, by omega⟩
      · show wW (zK sc) zM156 133 [(3, .inl ((z + (1 + (m13.1 31 t w.toNat))) + 9)), (0, .inr (.inr (.inl (some (26, t))))), (1, .inr (.inr (.inl (some (1, 101 + 7 * t + 0))))), (2, .inl y), (4, .inl w)] [] _ _ _
        have b28 : 0 ≤ m22.1 32 t w.toNat ∧ m22.1 32 t w.toNat ≤ 255 := hGm22.1 32 _ rfl _ _
        refine ww_go 5 (pc' := 142) (L' := [(3, .inl ((z + (1 + (m13.1 31 t w.toNat))) + 9)), (0, .inr (.inr (.inl (some (26, t))))), (1, .inr (.inr (.inl (some (1, 101 + 7 * t + 0))))), (2, .inl y), (4, .inl w)]) (st' := [.inl 96, .inl (m22.1 32 t w.toNat)]) (m' := m22) (o := some ((t < 10) ∧ (t < 10 ∧ 0 ≤ w ∧ w < ((6 : Nat) : Int)))) rfl (show (t < 10) ∧ (t < 10 ∧ 0 ≤ w ∧ w < ((6 : Nat) : Int)) from by omega) ?_
        refine ww_ic (t := 154) rfl rfl (by omega) (fun (h29 : 96 < m22.1 32 t w.toNat) => ?_) (fun (h29 : ¬ (96 < m22.1 32 t w.toNat)) => ?_)
        · show wW (zK sc) zM156 154 [(3, .inl ((z + (1 + (m13.1 31 t w.toNat))) + 9)), (0, .inr (.inr (.inl (some (26, t))))), (1, .inr (.inr (.inl (some (1, 101 + 7 * t + 0))))), (2, .inl y), (4, .inl w)] [] _ _ _
          refine ww_go 1 (pc' := 155) (L' := [(3, .inl ((z + (1 + (m13.1 31 t w.toNat))) + 9)), (0, .inr (.inr (.inl (some (26, t))))), (1, .inr (.inr (.inl (some (1, 101 + 7 * t + 0))))), (2, .inl y), (4, .inl w)]) (st' := [.inl 0]) (m' := m22) (o := none) rfl trivial ?_
          exact ww_rB rfl rfl (by omega) ⟨_, rfl, rfl, zB_mono hGm22 (by omega), hFm22, by omega⟩
        · show wW (zK sc) zM156 145 [(3, .inl ((z + (1 + (m13.1 31 t w.toNat))) + 9)), (0, .inr (.inr (.inl (some (26, t))))), (1, .inr (.inr (.inl (some (1, 101 + 7 * t + 0))))), (2, .inl y), (4, .inl w)] [] _ _ _
          refine ww_go 2 (pc' := 148) (L' := [(3, .inl ((z + (1 + (m13.1 31 t w.toNat))) + 9)), (0, .inr (.inr (.inl (some (26, t))))), (1, .inr (.inr (.inl (some (1, 101 + 7 * t + 0))))), (2, .inl y), (4, .inl w)]) (st' := [.inl w, .inr (.inr (.inl (some (26, t))))]) (m' := m22) (o := none) rfl trivial ?_
          refine ww_call (vs := [.inr (.inr (.inl (some (26, t)))), .inl w]) (r := []) (p := t < 10) rfl rfl rfl rfl (show t < 10 from by omega) (zs147 (c := c) (by omega) w t hGm22 (by omega)) ?_
          rintro _ _ _ ⟨r30, rfl, rfl, rfl, hr31⟩
          show wW (zK sc) zM156 151 [(3, .inl ((z + (1 + (m13.1 31 t w.toNat))) + 9)), (0, .inr (.inr (.inl (some (26, t))))), (1, .inr (.inr (.inl (some (1, 101 + 7 * t + 0))))), (2, .inl y), (4, .inl w)] [.inl r30] _ _ _
          refine ww_if (t := 156) rfl rfl (by omega) (fun (h32 : r30 ≠ 0) => ?_) (fun (h32 : ¬ (r30 ≠ 0)) => ?_)
          · show wW (zK sc) zM156 156 [(3, .inl ((z + (1 + (m13.1 31 t w.toNat))) + 9)), (0, .inr (.inr (.inl (some (26, t))))), (1, .inr (.inr (.inl (some (1, 101 + 7 * t + 0))))), (2, .inl y), (4, .inl w)] [] _ _ _
            refine ww_go 2 (pc' := 41) (L' := [(4, .inl (w + 1)), (3, .inl ((z + (1 + (m13.1 31 t w.toNat))) + 9)), (0, .inr (.inr (.inl (some (26, t))))), (1, .inr (.inr (.inl (some (1, 101 + 7 * t + 0))))), (2, .inl y)]) (st' := []) (m' := m22) (o := none) rfl trivial ?_
            refine ww_sub (L := [(0, .inr (.inr (.inl (some (26, t))))), (1, .inr (.inr (.inl (some (1, 101 + 7 * t + 0))))), (2, .inl y), (3, .inl ((z + (1 + (m13.1 31 t w.toNat))) + 9)), (4, .inl (w + 1))]) ⟨rfl, rfl, rfl, rfl, rfl, trivial⟩ rfl rfl ?_
            exact (ih _ (by omega)) y ((z + (1 + (m13.1 31 t w.toNat))) + 9) (w + 1) m22 rfl (zB_mono hGm22 (by omega)) hFm22 (by omega)
          · show wW (zK sc) zM156 154 [(3, .inl ((z + (1 + (m13.1 31 t w.toNat))) + 9)), (0, .inr (.inr (.inl (some (26, t))))), (1, .inr (.inr (.inl (some (1, 101 + 7 * t + 0))))), (2, .inl y), (4, .inl w)] [] _ _ _
            refine ww_go 1 (pc' := 155) (L' := [(3, .inl ((z + (1 + (m13.1 31 t w.toNat))) + 9)), (0, .inr (.inr (.inl (some (26, t))))), (1, .inr (.inr (.inl (some (1, 101 + 7 * t + 0))))), (2, .inl y), (4, .inl w)]) (st' := [.inl 0]) (m' := m22) (o := none) rfl trivial ?_
            exact ww_rB rfl rfl (by omega) ⟨_, rfl, rfl, zB_mono hGm22 (by omega), hFm22, by omega⟩
set_option maxRecDepth 8000 in
/-- Version.readManifest -/
theorem zs156 {sc : xSc} {n : Nat × Nat} {m0 : wm} {c : Int} (hc : 0 ≤ c ∧ c ≤ 1000000) (t : Nat) (hG : zB c m0) (h0 : t < 10) : wX (zK sc) 156 [.inr (.inr (.inl (some (26, t))))] n m0 (wr (fun vv n1 m1 => ∃ r : Int, vv = some (.inl r) ∧ n = n1 ∧ zB c m1 ∧ zfr (fun k i j => (k = 26 ∧ i = t) ∨ (k = 30 ∧ i = t) ∨ (k = 31 ∧ i = t) ∨ (k = 32 ∧ i = t) ∨ (k = 33 ∧ i = t)) m0 m1 ∧ (0 ≤ r ∧ r ≤ 1))) := by
  refine wX_of (N := zM156) rfl (Nat.le_of_ble_eq_true rfl) ?_
  show wW (zK sc) zM156 0 [(0, .inr (.inr (.inl (some (26, t)))))] [] n m0 _
  have hF : zfr (fun k i j => (k = 26 ∧ i = t) ∨ (k = 30 ∧ i = t) ∨ (k = 31 ∧ i = t) ∨ (k = 32 ∧ i = t) ∨ (k = 33 ∧ i = t)) m0 m0 := zfr_rf
  refine ww_go 7 (pc' := 9) (L' := [(1, .inr (.inr (.inl (some (1, 101 + 7 * t + 0))))), (0, .inr (.inr (.inl (some (26, t)))))]) (st' := [.inl 2, .inr (.inr (.inl (some (1, 101 + 7 * t + 0))))]) (m' := m0) (o := some ((t < 10) ∧ (t < 10 ∧ 0 ≤ (0 : Int) ∧ (0 : Int) < ((7 : Nat) : Int)))) rfl (show (t < 10) ∧ (t < 10 ∧ 0 ≤ (0 : Int) ∧ (0 : Int) < ((7 : Nat) : Int)) from by omega) ?_
  refine ww_call (vs := [.inr (.inr (.inl (some (1, 101 + 7 * t + 0)))), .inl 2]) (r := []) (p := 101 + 7 * t + 0 < 171) rfl rfl rfl rfl (show 101 + 7 * t + 0 < 171 from by omega) (zs28 (c := c) (by omega) 2 (101 + 7 * t + 0) hG (by omega)) ?_
  rintro _ _ _ ⟨r1, rfl, rfl, rfl, hr2⟩
  show wW (zK sc) zM156 12 [(1, .inr (.inr (.inl (some (1, 101 + 7 * t + 0))))), (0, .inr (.inr (.inl (some (26, t)))))] [.inl r1] _ _ _
  refine ww_go 4 (pc' := 16) (L' := [(2, .inl r1), (1, .inr (.inr (.inl (some (1, 101 + 7 * t + 0))))), (0, .inr (.inr (.inl (some (26, t)))))]) (st' := [.inl 2, .inl 0, .inr (.inr (.inl (some (1, 101 + 7 * t + 0))))]) (m' := m0) (o := none) rfl trivial ?_
  refine ww_call (vs := [.inr (.inr (.inl (some (1, 101 + 7 * t + 0)))), .inl 0, .inl 2]) (r := []) (p := 101 + 7 * t + 0 < 171) rfl rfl rfl rfl (show 101 + 7 * t + 0 < 171 from by omega) (zs36 (c := c) (by omega) 0 2 (101 + 7 * t + 0) hG (by omega)) ?_
  rintro _ _ _ ⟨r3, rfl, rfl, rfl, hr4⟩
  show wW (zK sc) zM156 19 [(2, .inl r1), (1, .inr (.inr (.inl (some (1, 101 + 7 * t + 0))))), (0, .inr (.inr (.inl (some (26, t)))))] [.inr (.inl r3)] _ _ _
  have b5 : 0 ≤ m0.1 26 t 7 ∧ m0.1 26 t 7 ≤ 65535 := hG.1 26 _ rfl _ _
  have t6 := wlcmp_rg r3 (wi2l (m0.1 26 t 7))
  refine ww_go 4 (pc' := 25) (L' := [(2, .inl r1), (1, .inr (.inr (.inl (some (1, 101 + 7 * t + 0))))), (0, .inr (.inr (.inl (some (26, t)))))]) (st' := [.inl (wlcmp r3 (wi2l (m0.1 26 t 7)))]) (m' := m0) (o := some ((t < 10))) rfl (show (t < 10) from by omega) ?_
  refine ww_if (t := 34) rfl rfl (by omega) (fun (h7 : wlcmp r3 (wi2l (m0.1 26 t 7)) ≠ 0) => ?_) (fun (h7 : ¬ (wlcmp r3 (wi2l (m0.1 26 t 7)) ≠ 0)) => ?_)
  · show wW (zK sc) zM156 34 [(2, .inl r1), (1, .inr (.inr (.inl (some (1, 101 + 7 * t + 0))))), (0, .inr (.inr (.inl (some (26, t)))))] [] _ _ _
    refine ww_go 1 (pc' := 35) (L' := [(2, .inl r1), (1, .inr (.inr (.inl (some (1, 101 + 7 * t + 0))))), (0, .inr (.inr (.inl (some (26, t)))))]) (st' := [.inl 0]) (m' := m0) (o := none) rfl trivial ?_
    exact ww_rB rfl rfl (by omega) ⟨_, rfl, rfl, zB_mono hG (by omega), hF, by omega⟩
  · show wW (zK sc) zM156 28 [(2, .inl r1), (1, .inr (.inr (.inl (some (1, 101 + 7 * t + 0))))), (0, .inr (.inr (.inl (some (26, t)))))] [] _ _ _
    refine ww_go 2 (pc' := 31) (L' := [(2, .inl r1), (1, .inr (.inr (.inl (some (1, 101 + 7 * t + 0))))), (0, .inr (.inr (.inl (some (26, t)))))]) (st' := [.inl 6, .inl r1]) (m' := m0) (o := none) rfl trivial ?_
    refine ww_ic (t := 36) rfl rfl (by omega) (fun (h8 : r1 ≤ 6) => ?_) (fun (h8 : ¬ (r1 ≤ 6)) => ?_)
    · show wW (zK sc) zM156 36 [(2, .inl r1), (1, .inr (.inr (.inl (some (1, 101 + 7 * t + 0))))), (0, .inr (.inr (.inl (some (26, t)))))] [] _ _ _
      refine ww_go 4 (pc' := 41) (L' := [(4, .inl 0), (3, .inl 3), (2, .inl r1), (1, .inr (.inr (.inl (some (1, 101 + 7 * t + 0))))), (0, .inr (.inr (.inl (some (26, t)))))]) (st' := []) (m' := m0) (o := none) rfl trivial ?_
      refine ww_sub (L := [(0, .inr (.inr (.inl (some (26, t))))), (1, .inr (.inr (.inl (some (1, 101 + 7 * t + 0))))), (2, .inl r1), (3, .inl 3), (4, .inl 0)]) ⟨rfl, rfl, rfl, rfl, rfl, trivial⟩ rfl rfl ?_
      exact (zs156_l41 hc t hG h0 _) r1 3 0 m0 rfl (zB_mono hG (by omega)) hF (by omega)
    · show wW (zK sc) zM156 34 [(2, .inl r1), (1, .inr (.inr (.inl (some (1, 101 + 7 * t + 0))))), (0, .inr (.inr (.inl (some (26, t)))))] [] _ _ _
      refine ww_go 1 (pc' := 35) (L' := [(2, .inl r1), (1, .inr (.inr (.inl (some (1, 101 + 7 * t + 0))))), (0, .inr (.inr (.inl (some (26, t)))))]) (st' := [.inl 0]) (m' := m0) (o := none) rfl trivial ?_
      exact ww_rB rfl rfl (by omega) ⟨_, rfl, rfl, zB_mono hG (by omega), hF, by omega⟩
set_option maxRecDepth 8000 in
/-- Version.holdIfRight -/
theorem zs145 {sc : xSc} {n : Nat × Nat} {m0 : wm} {c : Int} (hc : 0 ≤ c ∧ c ≤ 1000000) (x : Int) (t : Nat) (hG : zB c m0) (h0 : t < 10 ∧ -2147483648 ≤ x ∧ x ≤ 2147483647) : wX (zK sc) 145 [.inr (.inr (.inl (some (26, t)))), .inl x] n m0 (wr (fun vv n1 m1 => ∃ r : Int, vv = some (.inl r) ∧ n = n1 ∧ zB c m1 ∧ zfr (fun k i j => (k = 29 ∧ i = t)) m0 m1 ∧ (0 ≤ r ∧ r ≤ 1))) := by
  refine wX_of (N := zM145) rfl (Nat.le_of_ble_eq_true rfl) ?_
  show wW (zK sc) zM145 0 [(0, .inr (.inr (.inl (some (26, t))))), (1, .inl x)] [] n m0 _
  have hF : zfr (fun k i j => (k = 29 ∧ i = t)) m0 m0 := zfr_rf
  have zl9 := zlim_le (101 + 7 * t + x.toNat)
  refine ww_go 2 (pc' := 2) (L' := [(0, .inr (.inr (.inl (some (26, t))))), (1, .inl x)]) (st' := [.inl 1, .inl x]) (m' := m0) (o := none) rfl trivial ?_
  refine ww_ic (t := 13) rfl rfl (by omega) (fun (h1 : x < 1) => ?_) (fun (h1 : ¬ (x < 1)) => ?_)
  · show wW (zK sc) zM145 13 [(0, .inr (.inr (.inl (some (26, t))))), (1, .inl x)] [] _ _ _
    refine ww_go 1 (pc' := 14) (L' := [(0, .inr (.inr (.inl (some (26, t))))), (1, .inl x)]) (st' := [.inl 0]) (m' := m0) (o := none) rfl trivial ?_
    exact ww_rB rfl rfl (by omega) ⟨_, rfl, rfl, zB_mono hG (by omega), hF, by omega⟩
  · show wW (zK sc) zM145 5 [(0, .inr (.inr (.inl (some (26, t))))), (1, .inl x)] [] _ _ _
    have b2 : 0 ≤ m0.1 26 t 9 ∧ m0.1 26 t 9 ≤ 6 := hG.1 26 _ rfl _ _
    refine ww_go 3 (pc' := 10) (L' := [(0, .inr (.inr (.inl (some (26, t))))), (1, .inl x)]) (st' := [.inl (m0.1 26 t 9), .inl x]) (m' := m0) (o := some ((t < 10))) rfl (show (t < 10) from by omega) ?_
    refine ww_ic (t := 15) rfl rfl (by omega) (fun (h3 : x ≤ m0.1 26 t 9) => ?_) (fun (h3 : ¬ (x ≤ m0.1 26 t 9)) => ?_)
    · show wW (zK sc) zM145 15 [(0, .inr (.inr (.inl (some (26, t))))), (1, .inl x)] [] _ _ _
      refine ww_go 9 (pc' := 28) (L' := [(2, .inr (.inr (.inl (some (1, 101 + 7 * t + x.toNat))))), (0, .inr (.inr (.inl (some (26, t))))), (1, .inl x)]) (st' := [.inr (.inr (.inl (some (1, 101 + 7 * t + x.toNat)))), .inl x, .inr (.inr (.inl (some (29, t))))]) (m' := m0) (o := some ((t < 10) ∧ (t < 10 ∧ 0 ≤ x ∧ x < ((7 : Nat) : Int)) ∧ (t < 10))) rfl (show (t < 10) ∧ (t < 10 ∧ 0 ≤ x ∧ x < ((7 : Nat) : Int)) ∧ (t < 10) from by omega) ?_
      refine ww_call (vs := [.inr (.inr (.inl (some (1, 101 + 7 * t + x.toNat))))]) (r := [.inl x, .inr (.inr (.inl (some (29, t))))]) (p := 101 + 7 * t + x.toNat < 171) rfl rfl rfl rfl (show 101 + 7 * t + x.toNat < 171 from by omega) (zs40 (c := c) (by omega) (101 + 7 * t + x.toNat) hG (by omega)) ?_
      rintro _ _ _ ⟨r4, rfl, rfl, rfl, hr5⟩
      show wW (zK sc) zM145 31 [(2, .inr (.inr (.inl (some (1, 101 + 7 * t + x.toNat))))), (0, .inr (.inr (.inl (some (26, t))))), (1, .inl x)] [.inl r4, .inl x, .inr (.inr (.inl (some (29, t))))] _ _ _
      have b6 : 0 ≤ m0.1 32 t ((x - 1).toNat) ∧ m0.1 32 t ((x - 1).toNat) ≤ 255 := hG.1 32 _ rfl _ _
      refine ww_go 6 (pc' := 39) (L' := [(2, .inr (.inr (.inl (some (1, 101 + 7 * t + x.toNat))))), (0, .inr (.inr (.inl (some (26, t))))), (1, .inl x)]) (st' := [.inl (m0.1 32 t ((x - 1).toNat)), .inl r4, .inl x, .inr (.inr (.inl (some (29, t))))]) (m' := m0) (o := some ((t < 10) ∧ (t < 10 ∧ 0 ≤ x - 1 ∧ x - 1 < ((6 : Nat) : Int)))) rfl (show (t < 10) ∧ (t < 10 ∧ 0 ≤ x - 1 ∧ x - 1 < ((6 : Nat) : Int)) from by omega) ?_
      refine ww_ic (t := 66) rfl rfl (by omega) (fun (h7 : r4 ≠ m0.1 32 t ((x - 1).toNat)) => ?_) (fun (h7 : ¬ (r4 ≠ m0.1 32 t ((x - 1).toNat))) => ?_)
      · show wW (zK sc) zM145 66 [(2, .inr (.inr (.inl (some (1, 101 + 7 * t + x.toNat))))), (0, .inr (.inr (.inl (some (26, t))))), (1, .inl x)] [.inl x, .inr (.inr (.inl (some (29, t))))] _ _ _
        refine ww_go 2 (pc' := 68) (L' := [(2, .inr (.inr (.inl (some (1, 101 + 7 * t + x.toNat))))), (0, .inr (.inr (.inl (some (26, t))))), (1, .inl x)]) (st' := []) (m' := wuI m0 29 t x.toNat 0) (o := some ((t < 10 ∧ 0 ≤ x ∧ x < ((7 : Nat) : Int) ∧ 0 ≤ (0 : Int) ∧ (0 : Int) ≤ 1))) rfl (show (t < 10 ∧ 0 ≤ x ∧ x < ((7 : Nat) : Int) ∧ 0 ≤ (0 : Int) ∧ (0 : Int) ≤ 1) from by omega) ?_
        obtain ⟨m8, hm8⟩ : ∃ zq9 : wm, zq9 = wuI m0 29 t x.toNat 0 := ⟨_, rfl⟩
        rw [← hm8]
        have hGm8 : zB c m8 := by rw [hm8]; exact zB_wI rfl (show 0 ≤ (0 : Int) ∧ (0 : Int) ≤ 1 from by omega) hG
        have hFm8 : zfr (fun k i j => (k = 29 ∧ i = t)) m0 m8 := by rw [hm8]; exact zfr_wI hF (show (29 = 29 ∧ t = t) from ⟨rfl, rfl⟩)
        have s9 : m8.1 29 t x.toNat = (0 : Int) := by rw [hm8]; exact wuI_self
        have b10 : 0 ≤ m8.1 29 t x.toNat ∧ m8.1 29 t x.toNat ≤ 1 := hGm8.1 29 _ rfl _ _
        refine ww_go 4 (pc' := 74) (L' := [(2, .inr (.inr (.inl (some (1, 101 + 7 * t + x.toNat))))), (0, .inr (.inr (.inl (some (26, t))))), (1, .inl x)]) (st' := [.inl (m8.1 29 t x.toNat)]) (m' := m8) (o := some ((t < 10) ∧ (t < 10 ∧ 0 ≤ x ∧ x < ((7 : Nat) : Int)))) rfl (show (t < 10) ∧ (t < 10 ∧ 0 ≤ x ∧ x < ((7 : Nat) : Int)) from by omega) ?_
        exact ww_rB rfl rfl (by omega) ⟨_, rfl, rfl, zB_mono hGm8 (by omega), hFm8, by omega⟩
      · show wW (zK sc) zM145 42 [(2, .inr (.inr (.inl (some (1, 101 + 7 * t + x.toNat))))), (0, .inr (.inr (.inl (some (26, t))))), (1, .inl x)] [.inl x, .inr (.inr (.inl (some (29, t))))] _ _ _
        refine ww_go 2 (pc' := 44) (L' := [(2, .inr (.inr (.inl (some (1, 101 + 7 * t + x.toNat))))), (0, .inr (.inr (.inl (some (26, t))))), (1, .inl x)]) (st' := [.inr (.inr (.inl (some (1, 101 + 7 * t + x.toNat)))), .inr (.inr (.inl (some (1, 101 + 7 * t + x.toNat)))), .inl x, .inr (.inr (.inl (some (29, t))))]) (m' := m0) (o := none) rfl trivial ?_
        refine ww_call (vs := [.inr (.inr (.inl (some (1, 101 + 7 * t + x.toNat))))]) (r := [.inr (.inr (.inl (some (1, 101 + 7 * t + x.toNat)))), .inl x, .inr (.inr (.inl (some (29, t))))]) (p := 101 + 7 * t + x.toNat < 171) rfl rfl rfl rfl (show 101 + 7 * t + x.toNat < 171 from by omega) (zs40 (c := c) (by omega) (101 + 7 * t + x.toNat) hG (by omega)) ?_
        rintro _ _ _ ⟨r11, rfl, rfl, rfl, hr12⟩
        show wW (zK sc) zM145 47 [(2, .inr (.inr (.inl (some (1, 101 + 7 * t + x.toNat))))), (0, .inr (.inr (.inl (some (26, t))))), (1, .inl x)] [.inl r11, .inr (.inr (.inl (some (1, 101 + 7 * t + x.toNat)))), .inl x, .inr (.inr (.inl (some (29, t))))] _ _ _
        refine ww_call (vs := [.inr (.inr (.inl (some (1, 101 + 7 * t + x.toNat)))), .inl r11]) (r := [.inl x, .inr (.inr (.inl (some (29, t))))]) (p := 101 + 7 * t + x.toNat < 171) rfl rfl rfl rfl (show 101 + 7 * t + x.toNat < 171 from by omega) (zs33 (c := c) (by omega) r11 (101 + 7 * t + x.toNat) hG (by omega)) ?_
        rintro _ _ _ ⟨r13, rfl, rfl, rfl, hr14⟩
        show wW (zK sc) zM145 50 [(2, .inr (.inr (.inl (some (1, 101 + 7 * t + x.toNat))))), (0, .inr (.inr (.inl (some (26, t))))), (1, .inl x)] [.inr (.inl r13), .inl x, .inr (.inr (.inl (some (29, t))))] _ _ _
        have t15 := wlcmp_rg r13 (m0.2.1 33 t ((x - 1).toNat))
        refine ww_go 7 (pc' := 59) (L' := [(2, .inr (.inr (.inl (some (1, 101 + 7 * t + x.toNat))))), (0, .inr (.inr (.inl (some (26, t))))), (1, .inl x)]) (st' := [.inl (wlcmp r13 (m0.2.1 33 t ((x - 1).toNat))), .inl x, .inr (.inr (.inl (some (29, t))))]) (m' := m0) (o := some ((t < 10) ∧ (t < 10 ∧ 0 ≤ x - 1 ∧ x - 1 < ((6 : Nat) : Int)))) rfl (show (t < 10) ∧ (t < 10 ∧ 0 ≤ x - 1 ∧ x - 1 < ((6 : Nat) : Int)) from by omega) ?_
        refine ww_if (t := 66) rfl rfl (by omega) (fun (h16 : wlcmp r13 (m0.2.1 33 t ((x - 1).toNat)) ≠ 0) => ?_) (fun (h16 : ¬ (wlcmp r13 (m0.2.1 33 t ((x - 1).toNat)) ≠ 0)) => ?_)
        · show wW (zK sc) zM145 66 [(2, .inr (.inr (.inl (some (1, 101 + 7 * t + x.toNat))))), (0, .inr (.inr (.inl (some (26, t))))), (1, .inl x)] [.inl x, .inr (.inr (.inl (some (29, t))))] _ _ _
          refine ww_go 2 (pc' := 68) (L' := [(2, .inr (.inr (.inl (some (1, 101 + 7 * t + x.toNat))))), (0, .inr (.inr (.inl (some (26, t))))), (1, .inl x)]) (st' := []) (m' := wuI m0 29 t x.toNat 0) (o := some ((t < 10 ∧ 0 ≤ x ∧ x < ((7 : Nat) : Int) ∧ 0 ≤ (0 : Int) ∧ (0 : Int) ≤ 1))) rfl (show (t < 10 ∧ 0 ≤ x ∧ x < ((7 : Nat) : Int) ∧ 0 ≤ (0 : Int) ∧ (0 : Int) ≤ 1) from by omega) ?_
          obtain ⟨m17, hm17⟩ : ∃ zq9 : wm, zq9 = wuI m0 29 t x.toNat 0 := ⟨_, rfl⟩
          rw [← hm17]
          have hGm17 : zB c m17 := by rw [hm17]; exact zB_wI rfl (show 0 ≤ (0 : Int) ∧ (0 : Int) ≤ 1 from by omega) hG
          have hFm17 : zfr (fun k i j => (k = 29 ∧ i = t)) m0 m17 := by rw [hm17]; exact zfr_wI hF (show (29 = 29 ∧ t = t) from ⟨rfl, rfl⟩)
          have s18 : m17.1 29 t x.toNat = (0 : Int) := by rw [hm17]; exact wuI_self
          have b19 : 0 ≤ m17.1 29 t x.toNat ∧ m17.1 29 t x.toNat ≤ 1 := hGm17.1 29 _ rfl _ _
          refine ww_go 4 (pc' := 74) (L' := [(2, .inr (.inr (.inl (some (1, 101 + 7 * t + x.toNat))))), (0, .inr (.inr (.inl (some (26, t))))), (1, .inl x)]) (st' := [.inl (m17.1 29 t x.toNat)]) (m' := m17) (o := some ((t < 10) ∧ (t < 10 ∧ 0 ≤ x ∧ x < ((7 : Nat) : Int)))) rfl (show (t < 10) ∧ (t < 10 ∧ 0 ≤ x ∧ x < ((7 : Nat) : Int)) from by omega) ?_
          exact ww_rB rfl rfl (by omega) ⟨_, rfl, rfl, zB_mono hGm17 (by omega), hFm17, by omega⟩
        · show wW (zK sc) zM145 62 [(2, .inr (.inr (.inl (some (1, 101 + 7 * t + x.toNat))))), (0, .inr (.inr (.inl (some (26, t))))), (1, .inl x)] [.inl x, .inr (.inr (.inl (some (29, t))))] _ _ _
          refine ww_go 3 (pc' := 68) (L' := [(2, .inr (.inr (.inl (some (1, 101 + 7 * t + x.toNat))))), (0, .inr (.inr (.inl (some (26, t))))), (1, .inl x)]) (st' := []) (m' := wuI m0 29 t x.toNat 1) (o := some ((t < 10 ∧ 0 ≤ x ∧ x < ((7 : Nat) : Int) ∧ 0 ≤ (1 : Int) ∧ (1 : Int) ≤ 1))) rfl (show (t < 10 ∧ 0 ≤ x ∧ x < ((7 : Nat) : Int) ∧ 0 ≤ (1 : Int) ∧ (1 : Int) ≤ 1) from by omega) ?_
          obtain ⟨m20, hm20⟩ : ∃ zq9 : wm, zq9 = wuI m0 29 t x.toNat 1 := ⟨_, rfl⟩
          rw [← hm20]
          have hGm20 : zB c m20 := by rw [hm20]; exact zB_wI rfl (show 0 ≤ (1 : Int) ∧ (1 : Int) ≤ 1 from by omega) hG
          have hFm20 : zfr (fun k i j => (k = 29 ∧ i = t)) m0 m20 := by rw [hm20]; exact zfr_wI hF (show (29 = 29 ∧ t = t) from ⟨rfl, rfl⟩)
          have s21 : m20.1 29 t x.toNat = (1 : Int) := by rw [hm20]; exact wuI_self
          have b22 : 0 ≤ m20.1 29 t x.toNat ∧ m20.1 29 t x.toNat ≤ 1 := hGm20.1 29 _ rfl _ _
          refine ww_go 4 (pc' := 74) (L' := [(2, .inr (.inr (.inl (some (1, 101 + 7 * t + x.toNat))))), (0, .inr (.inr (.inl (some (26, t))))), (1, .inl x)]) (st' := [.inl (m20.1 29 t x.toNat)]) (m' := m20) (o := some ((t < 10) ∧ (t < 10 ∧ 0 ≤ x ∧ x < ((7 : Nat) : Int)))) rfl (show (t < 10) ∧ (t < 10 ∧ 0 ≤ x ∧ x < ((7 : Nat) : Int)) from by omega) ?_
          exact ww_rB rfl rfl (by omega) ⟨_, rfl, rfl, zB_mono hGm20 (by omega), hFm20, by omega⟩
    · show wW (zK sc) zM145 13 [(0, .inr (.inr (.inl (some (26, t))))), (1, .inl x)] [] _ _ _
      refine ww_go 1 (pc' := 14) (L' := [(0, .inr (.inr (.inl (some (26, t))))), (1, .inl x)]) (st' := [.inl 0]) (m' := m0) (o := none) rfl trivial ?_
      exact ww_rB rfl rfl (by omega) ⟨_, rfl, rfl, zB_mono hG (by omega), hF, by omega⟩
set_option maxRecDepth 8000 in
theorem zs143_l2 {sc : xSc} {n : Nat × Nat} {m : wm} {c : Int} (hc : 0 ≤ c ∧ c ≤ 1000000) (x : Int) (t : Nat) (s : Nat) (hG : zB c m) (h0 : t < 10 ∧ s < 10 ∧ 1 ≤ x ∧ x ≤ 6) : ∀ (d : Nat), ∀ (y : Int), (7 - y).toNat = d → (1 ≤ y ∧ y ≤ 7) →  wW (zK sc) zM143 2 [(0, .inr (.inr (.inl (some (26, t))))), (1, .inr (.inr (.inl (some (26, s))))), (2, .inl x), (3, .inl y)] [] n m (wr (fun vv n1 m1 => ∃ r : Int, vv = some (.inl r) ∧ n = n1 ∧ m = m1 ∧ (0 ≤ r ∧ r ≤ 6))) := by
  intro d
  induction d using Nat.strongRecOn with
  | ind d ih =>
    intro y hd hi
    have b1 : 0 ≤ m.1 26 t 9 ∧ m.1 26 t 9 ≤ 6 := hG.1 26 _ rfl _ _
    refine ww_go 3 (pc' := 7) (L' := [(0, .inr (.inr (.inl (some (26, t))))), (1, .inr (.inr (.inl (some (26, s))))), (2, .inl x), (3, .inl y)]) (st' := [.inl (m.1 26 t 9), .inl y]) (m' := m) (o := some ((t < 10))) rfl (show (t < 10) from by omega) ?_
    refine ww_ic (t := 66) rfl rfl (by omega) (fun (h2 : m.1 26 t 9 < y) => ?_) (fun (h2 : ¬ (m.1 26 t 9 < y)) => ?_)
    · show wW (zK sc) zM143 66 [(0, .inr (.inr (.inl (some (26, t))))), (1, .inr (.inr (.inl (some (26, s))))), (2, .inl x), (3, .inl y)] [] _ _ _
      refine ww_go 1 (pc' := 67) (L' := [(0, .inr (.inr (.inl (some (26, t))))), (1, .inr (.inr (.inl (some (26, s))))), (2, .inl x), (3, .inl y)]) (st' := [.inl 0]) (m' := m) (o := none) rfl trivial ?_
      exact ww_rI rfl rfl ⟨_, rfl, rfl, rfl, by omega⟩
    · show wW (zK sc) zM143 10 [(0, .inr (.inr (.inl (some (26, t))))), (1, .inr (.inr (.inl (some (26, s))))), (2, .inl x), (3, .inl y)] [] _ _ _
      have b3 : 0 ≤ m.1 29 t y.toNat ∧ m.1 29 t y.toNat ≤ 1 := hG.1 29 _ rfl _ _
      refine ww_go 4 (pc' := 16) (L' := [(0, .inr (.inr (.inl (some (26, t))))), (1, .inr (.inr (.inl (some (26, s))))), (2, .inl x), (3, .inl y)]) (st' := [.inl (m.1 29 t y.toNat)]) (m' := m) (o := some ((t < 10) ∧ (t < 10 ∧ 0 ≤ y ∧ y < ((7 : Nat) : Int)))) rfl (show (t < 10) ∧ (t < 10 ∧ 0 ≤ y ∧ y < ((7 : Nat) : Int)) from by omega) ?_
      refine ww_if (t := 60) rfl rfl (by omega) (fun (h4 : m.1 29 t y.toNat = 0) => ?_) (fun (h4 : ¬ (m.1 29 t y.toNat = 0)) => ?_)
      · show wW (zK sc) zM143 60 [(0, .inr (.inr (.inl (some (26, t))))), (1, .inr (.inr (.inl (some (26, s))))), (2, .inl x), (3, .inl y)] [] _ _ _
        refine ww_go 2 (pc' := 2) (L' := [(3, .inl (y + 1)), (0, .inr (.inr (.inl (some (26, t))))), (1, .inr (.inr (.inl (some (26, s))))), (2, .inl x)]) (st' := []) (m' := m) (o := none) rfl trivial ?_
        refine ww_sub (L := [(0, .inr (.inr (.inl (some (26, t))))), (1, .inr (.inr (.inl (some (26, s))))), (2, .inl x), (3, .inl (y + 1))]) ⟨rfl, rfl, rfl, rfl, trivial⟩ rfl rfl ?_
        exact (ih _ (by omega)) (y + 1) rfl (by omega)
      · show wW (zK sc) zM143 19 [(0, .inr (.inr (.inl (some (26, t))))), (1, .inr (.inr (.inl (some (26, s))))), (2, .inl x), (3, .inl y)] [] _ _ _
        have b5 : 0 ≤ m.1 32 t ((y - 1).toNat) ∧ m.1 32 t ((y - 1).toNat) ≤ 255 := hG.1 32 _ rfl _ _
        have b6 : 0 ≤ m.1 32 s ((x - 1).toNat) ∧ m.1 32 s ((x - 1).toNat) ≤ 255 := hG.1 32 _ rfl _ _
        refine ww_go 12 (pc' := 35) (L' := [(0, .inr (.inr (.inl (some (26, t))))), (1, .inr (.inr (.inl (some (26, s))))), (2, .inl x), (3, .inl y)]) (st' := [.inl (m.1 32 s ((x - 1).toNat)), .inl (m.1 32 t ((y - 1).toNat))]) (m' := m) (o := some ((t < 10) ∧ (t < 10 ∧ 0 ≤ y - 1 ∧ y - 1 < ((6 : Nat) : Int)) ∧ (s < 10) ∧ (s < 10 ∧ 0 ≤ x - 1 ∧ x - 1 < ((6 : Nat) : Int)))) rfl (show (t < 10) ∧ (t < 10 ∧ 0 ≤ y - 1 ∧ y - 1 < ((6 : Nat) : Int)) ∧ (s < 10) ∧ (s < 10 ∧ 0 ≤ x - 1 ∧ x - 1 < ((6 : Nat) : Int)) from by omega) ?_
        refine ww_ic (t := 60) rfl rfl (by omega) (fun (h7 : m.1 32 t ((y - 1).toNat) ≠ m.1 32 s ((x - 1).toNat)) => ?_) (fun (h7 : ¬ (m.1 32 t ((y - 1).toNat) ≠ m.1 32 s ((x - 1).toNat))) => ?_)
        · show wW (zK sc) zM143 60 [(0, .inr (.inr (.inl (some (26, t))))), (1, .inr (.inr (.inl (some (26, s))))), (2, .inl x), (3, .inl y)] [] _ _ _
          refine ww_go 2 (pc' := 2) (L' := [(3, .inl (y + 1)), (0, .inr (.inr (.inl (some (26, t))))), (1, .inr (.inr (.inl (some (26, s))))), (2, .inl x)]) (st' := []) (m' := m) (o := none) rfl trivial ?_
          refine ww_sub (L := [(0, .inr (.inr (.inl (some (26, t))))), (1, .inr (.inr (.inl (some (26, s))))), (2, .inl x), (3, .inl (y + 1))]) ⟨rfl, rfl, rfl, rfl, trivial⟩ rfl rfl ?_
          exact (ih _ (by omega)) (y + 1) rfl (by omega)
        · show wW (zK sc) zM143 38 [(0, .inr (.inr (.inl (some (26, t))))), (1, .inr (.inr (.inl (some (26, s))))), (2, .inl x), (3, .inl y)] [] _ _ _
          have t8 := wlcmp_rg (m.2.1 33 t ((y - 1).toNat)) (m.2.1 33 s ((x - 1).toNat))
          refine ww_go 13 (pc' := 55) (L' := [(0, .inr (.inr (.inl (some (26, t))))), (1, .inr (.inr (.inl (some (26, s))))), (2, .inl x), (3, .inl y)]) (st' := [.inl (wlcmp (m.2.1 33 t ((y - 1).toNat)) (m.2.1 33 s ((x - 1).toNat)))]) (m' := m) (o := some ((t < 10) ∧ (t < 10 ∧ 0 ≤ y - 1 ∧ y - 1 < ((6 : Nat) : Int)) ∧ (s < 10) ∧ (s < 10 ∧ 0 ≤ x - 1 ∧ x - 1 < ((6 : Nat) : Int)))) rfl (show (t < 10) ∧ (t < 10 ∧ 0 ≤ y - 1 ∧ y - 1 < ((6 : Nat) : Int)) ∧ (s < 10) ∧ (s < 10 ∧ 0 ≤ x - 1 ∧ x - 1 < ((6 : Nat) : Int)) from by omega) ?_
          refine ww_if (t := 60) rfl rfl (by omega) (fun (h9 : wlcmp (m.2.1 33 t ((y - 1).toNat)) (m.2.1 33 s ((x - 1).toNat)) ≠ 0) => ?_) (fun (h9 : ¬ (wlcmp (m.2.1 33 t ((y - 1).toNat)) (m.2.1 33 s ((x - 1).toNat)) ≠ 0)) => ?_)
          · show wW (zK sc) zM143 60 [(0, .inr (.inr (.inl (some (26, t))))), (1, .inr (.inr (.inl (some (26, s))))), (2, .inl x), (3, .inl y)] [] _ _ _
            refine ww_go 2 (pc' := 2) (L' := [(3, .inl (y + 1)), (0, .inr (.inr (.inl (some (26, t))))), (1, .inr (.inr (.inl (some (26, s))))), (2, .inl x)]) (st' := []) (m' := m) (o := none) rfl trivial ?_
            refine ww_sub (L := [(0, .inr (.inr (.inl (some (26, t))))), (1, .inr (.inr (.inl (some (26, s))))), (2, .inl x), (3, .inl (y + 1))]) ⟨rfl, rfl, rfl, rfl, trivial⟩ rfl rfl ?_
            exact (ih _ (by omega)) (y + 1) rfl (by omega)
          · show wW (zK sc) zM143 58 [(0, .inr (.inr (.inl (some (26, t))))), (1, .inr (.inr (.inl (some (26, s))))), (2, .inl x), (3, .inl y)] [] _ _ _
            refine ww_go 1 (pc' := 59) (L' := [(0, .inr (.inr (.inl (some (26, t))))), (1, .inr (.inr (.inl (some (26, s))))), (2, .inl x), (3, .inl y)]) (st' := [.inl y]) (m' := m) (o := none) rfl trivial ?_
            exact ww_rI rfl rfl ⟨_, rfl, rfl, rfl, by omega⟩
set_option maxRecDepth 8000 in
/-- Version.heldLike -/
theorem zs143 {sc : xSc} {n : Nat × Nat} {m : wm} {c : Int} (hc : 0 ≤ c ∧ c ≤ 1000000) (x : Int) (t : Nat) (s : Nat) (hG : zB c m) (h0 : t < 10 ∧ s < 10 ∧ 1 ≤ x ∧ x ≤ 6) : wX (zK sc) 143 [.inr (.inr (.inl (some (26, t)))), .inr (.inr (.inl (some (26, s)))), .inl x] n m (wr (fun vv n1 m1 => ∃ r : Int, vv = some (.inl r) ∧ n = n1 ∧ m = m1 ∧ (0 ≤ r ∧ r ≤ 6))) := by
  refine wX_of (N := zM143) rfl (Nat.le_of_ble_eq_true rfl) ?_
  show wW (zK sc) zM143 0 [(0, .inr (.inr (.inl (some (26, t))))), (1, .inr (.inr (.inl (some (26, s))))), (2, .inl x)] [] n m _
  refine ww_go 2 (pc' := 2) (L' := [(3, .inl 1), (0, .inr (.inr (.inl (some (26, t))))), (1, .inr (.inr (.inl (some (26, s))))), (2, .inl x)]) (st' := []) (m' := m) (o := none) rfl trivial ?_
  refine ww_sub (L := [(0, .inr (.inr (.inl (some (26, t))))), (1, .inr (.inr (.inl (some (26, s))))), (2, .inl x), (3, .inl 1)]) ⟨rfl, rfl, rfl, rfl, trivial⟩ rfl rfl ?_
  exact (zs143_l2 hc x t s hG h0 _) 1 rfl (by omega)
set_option maxRecDepth 8000 in
theorem zs144_l19 {sc : xSc} {n : Nat × Nat} {m0 : wm} {c : Int} (hc : 0 ≤ c ∧ c ≤ 1000000) (x : Int) (t : Nat) (s : Nat) (hG : zB c m0) (h0 : t < 10 ∧ 0 ≤ x ∧ x ≤ 6 ∧ s < 171) : ∀ (d : Nat), ∀ (y : Int) (m : wm), (2 - y).toNat = d → zB c m → zfr (fun k i j => (k = 1 ∧ 101 ≤ i ∧ i < 171 ∧ j = 1) ∨ (k = 2 ∧ 101 ≤ i ∧ i < 171) ∨ (k = 28 ∧ i = t) ∨ (k = 29 ∧ i = t)) m0 m → (0 ≤ y ∧ y ≤ 2) →  wW (zK sc) zM144 19 [(0, .inr (.inr (.inl (some (26, t))))), (1, .inl x), (2, .inr (.inr (.inl (some (1, s))))), (3, .inl y)] [] n m (wr (fun vv n1 m1 => vv = none ∧ n = n1 ∧ zB c m1 ∧ zfr (fun k i j => (k = 1 ∧ 101 ≤ i ∧ i < 171 ∧ j = 1) ∨ (k = 2 ∧ 101 ≤ i ∧ i < 171) ∨ (k = 28 ∧ i = t) ∨ (k = 29 ∧ i = t)) m0 m1 ∧ True)) := by
  intro d
  induction d using Nat.strongRecOn with
  | ind d ih =>
    intro y m hd hGm hFm hi
    have zl8 := zlim_le s
    refine ww_go 2 (pc' := 21) (L' := [(0, .inr (.inr (.inl (some (26, t))))), (1, .inl x), (2, .inr (.inr (.inl (some (1, s))))), (3, .inl y)]) (st' := [.inl 2, .inl y]) (m' := m) (o := none) rfl trivial ?_
    refine ww_ic (t := 56) rfl rfl (by omega) (fun (h1 : 2 ≤ y) => ?_) (fun (h1 : ¬ (2 ≤ y)) => ?_)
    · show wW (zK sc) zM144 56 [(0, .inr (.inr (.inl (some (26, t))))), (1, .inl x), (2, .inr (.inr (.inl (some (1, s))))), (3, .inl y)] [] _ _ _
      exact ww_rV rfl rfl ⟨rfl, rfl, zB_mono hGm (by omega), hFm, by trivial⟩
    · show wW (zK sc) zM144 24 [(0, .inr (.inr (.inl (some (26, t))))), (1, .inl x), (2, .inr (.inr (.inl (some (1, s))))), (3, .inl y)] [] _ _ _
      refine ww_go 9 (pc' := 35) (L' := [(0, .inr (.inr (.inl (some (26, t))))), (1, .inl x), (2, .inr (.inr (.inl (some (1, s))))), (3, .inl y)]) (st' := [.inr (.inr (.inl (some (1, s)))), .inl y, .inl ((x * 2) + y), .inr (.inr (.inl (some (28, t))))]) (m' := m) (o := some ((t < 10))) rfl (show (t < 10) from by omega) ?_
      refine ww_call (vs := [.inr (.inr (.inl (some (1, s))))]) (r := [.inl y, .inl ((x * 2) + y), .inr (.inr (.inl (some (28, t))))]) (p := s < 171) rfl rfl rfl rfl (show s < 171 from by omega) (zs40 (c := c) (by omega) s hGm (by omega)) ?_
      rintro _ _ _ ⟨r2, rfl, rfl, rfl, hr3⟩
      show wW (zK sc) zM144 38 [(0, .inr (.inr (.inl (some (26, t))))), (1, .inl x), (2, .inr (.inr (.inl (some (1, s))))), (3, .inl y)] [.inl r2, .inl y, .inl ((x * 2) + y), .inr (.inr (.inl (some (28, t))))] _ _ _
      refine ww_call (vs := [.inl r2]) (r := [.inl y, .inl ((x * 2) + y), .inr (.inr (.inl (some (28, t))))]) (p := True) rfl rfl rfl rfl trivial (zs42 r2 (by omega)) ?_
      rintro _ _ _ ⟨r4, rfl, rfl, rfl, hr5⟩
      show wW (zK sc) zM144 41 [(0, .inr (.inr (.inl (some (26, t))))), (1, .inl x), (2, .inr (.inr (.inl (some (1, s))))), (3, .inl y)] [.inl r4, .inl y, .inl ((x * 2) + y), .inr (.inr (.inl (some (28, t))))] _ _ _
      refine ww_ic (t := 48) rfl rfl (by omega) (fun (h6 : r4 ≤ y) => ?_) (fun (h6 : ¬ (r4 ≤ y)) => ?_)
      · show wW (zK sc) zM144 48 [(0, .inr (.inr (.inl (some (26, t))))), (1, .inl x), (2, .inr (.inr (.inl (some (1, s))))), (3, .inl y)] [.inl ((x * 2) + y), .inr (.inr (.inl (some (28, t))))] _ _ _
        refine ww_go 2 (pc' := 50) (L' := [(0, .inr (.inr (.inl (some (26, t))))), (1, .inl x), (2, .inr (.inr (.inl (some (1, s))))), (3, .inl y)]) (st' := []) (m' := wuI m 28 t (((x * 2) + y).toNat) 0) (o := some ((t < 10 ∧ 0 ≤ (x * 2) + y ∧ (x * 2) + y < ((14 : Nat) : Int) ∧ 0 ≤ (0 : Int) ∧ (0 : Int) ≤ 1))) rfl (show (t < 10 ∧ 0 ≤ (x * 2) + y ∧ (x * 2) + y < ((14 : Nat) : Int) ∧ 0 ≤ (0 : Int) ∧ (0 : Int) ≤ 1) from by omega) ?_
        obtain ⟨m7, hm7⟩ : ∃ zq9 : wm, zq9 = wuI m 28 t (((x * 2) + y).toNat) 0 := ⟨_, rfl⟩
        rw [← hm7]
        have hGm7 : zB c m7 := by rw [hm7]; exact zB_wI rfl (show 0 ≤ (0 : Int) ∧ (0 : Int) ≤ 1 from by omega) hGm
        have hFm7 : zfr (fun k i j => (k = 1 ∧ 101 ≤ i ∧ i < 171 ∧ j = 1) ∨ (k = 2 ∧ 101 ≤ i ∧ i < 171) ∨ (k = 28 ∧ i = t) ∨ (k = 29 ∧ i = t)) m0 m7 := by rw [hm7]; exact zfr_wI hFm (show (28 = 1 ∧ 101 ≤ t ∧ t < 171 ∧ (((x * 2) + y).toNat) = 1) ∨ (28 = 2 ∧ 101 ≤ t ∧ t < 171) ∨ (28 = 28 ∧ t = t) ∨ (28 = 29 ∧ t = t) from Or.inr (Or.inr (Or.inl (⟨rfl, rfl⟩))))
        have s8 : m7.1 28 t (((x * 2) + y).toNat) = (0 : Int) := by rw [hm7]; exact wuI_self
        refine ww_go 2 (pc' := 19) (L' := [(3, .inl (y + 1)), (0, .inr (.inr (.inl (some (26, t))))), (1, .inl x), (2, .inr (.inr (.inl (some (1, s)))))]) (st' := []) (m' := m7) (o := none) rfl trivial ?_
        refine ww_sub (L := [(0, .inr (.inr (.inl (some (26, t))))), (1, .inl x), (2, .inr (.inr (.inl (some (1, s))))), (3, .inl (y + 1))]) ⟨rfl, rfl, rfl, rfl, trivial⟩ rfl rfl ?_
        exact (ih _ (by omega)) (y + 1) m7 rfl (zB_mono hGm7 (by omega)) hFm7 (by omega)
      · show wW (zK sc) zM144 44 [(0, .inr (.inr (.inl (some (26, t))))), (1, .inl x), (2, .inr (.inr (.inl (some (1, s))))), (3, .inl y)] [.inl ((x * 2) + y), .inr (.inr (.inl (some (28, t))))] _ _ _
        refine ww_go 3 (pc' := 50) (L' := [(0, .inr (.inr (.inl (some (26, t))))), (1, .inl x), (2, .inr (.inr (.inl (some (1, s))))), (3, .inl y)]) (st' := []) (m' := wuI m 28 t (((x * 2) + y).toNat) 1) (o := some ((t < 10 ∧ 0 ≤ (x * 2) + y ∧ (x * 2) + y < ((14 : Nat) : Int) ∧ 0 ≤ (1 : Int) ∧ (1 : Int) ≤ 1))) rfl (show (t < 10 ∧ 0 ≤ (x * 2) + y ∧ (x * 2) + y < ((14 : Nat) : Int) ∧ 0 ≤ (1 : Int) ∧ (1 : Int) ≤ 1) from by omega) ?_
        obtain ⟨m9, hm9⟩ : ∃ zq9 : wm, zq9 = wuI m 28 t (((x * 2) + y).toNat) 1 := ⟨_, rfl⟩
        rw [← hm9]
        have hGm9 : zB c m9 := by rw [hm9]; exact zB_wI rfl (show 0 ≤ (1 : Int) ∧ (1 : Int) ≤ 1 from by omega) hGm
        have hFm9 : zfr (fun k i j => (k = 1 ∧ 101 ≤ i ∧ i < 171 ∧ j = 1) ∨ (k = 2 ∧ 101 ≤ i ∧ i < 171) ∨ (k = 28 ∧ i = t) ∨ (k = 29 ∧ i = t)) m0 m9 := by rw [hm9]; exact zfr_wI hFm (show (28 = 1 ∧ 101 ≤ t ∧ t < 171 ∧ (((x * 2) + y).toNat) = 1) ∨ (28 = 2 ∧ 101 ≤ t ∧ t < 171) ∨ (28 = 28 ∧ t = t) ∨ (28 = 29 ∧ t = t) from Or.inr (Or.inr (Or.inl (⟨rfl, rfl⟩))))
        have s10 : m9.1 28 t (((x * 2) + y).toNat) = (1 : Int) := by rw [hm9]; exact wuI_self
        refine ww_go 2 (pc' := 19) (L' := [(3, .inl (y + 1)), (0, .inr (.inr (.inl (some (26, t))))), (1, .inl x), (2, .inr (.inr (.inl (some (1, s)))))]) (st' := []) (m' := m9) (o := none) rfl trivial ?_
        refine ww_sub (L := [(0, .inr (.inr (.inl (some (26, t))))), (1, .inl x), (2, .inr (.inr (.inl (some (1, s))))), (3, .inl (y + 1))]) ⟨rfl, rfl, rfl, rfl, trivial⟩ rfl rfl ?_
        exact (ih _ (by omega)) (y + 1) m9 rfl (zB_mono hGm9 (by omega)) hFm9 (by omega)
set_option maxRecDepth 8000 in
/-- Version.holdCopy -/
theorem zs144 {sc : xSc} {n : Nat × Nat} {m0 : wm} {c : Int} (hc : 0 ≤ c ∧ c ≤ 1000000) (x : Int) (t : Nat) (s : Nat) (hG : zB c m0) (h0 : t < 10 ∧ 0 ≤ x ∧ x ≤ 6 ∧ s < 171) : wX (zK sc) 144 [.inr (.inr (.inl (some (26, t)))), .inl x, .inr (.inr (.inl (some (1, s))))] n m0 (wr (fun vv n1 m1 => vv = none ∧ n = n1 ∧ zB c m1 ∧ zfr (fun k i j => (k = 1 ∧ 101 ≤ i ∧ i < 171 ∧ j = 1) ∨ (k = 2 ∧ 101 ≤ i ∧ i < 171) ∨ (k = 28 ∧ i = t) ∨ (k = 29 ∧ i = t)) m0 m1 ∧ True)) := by
  refine wX_of (N := zM144) rfl (Nat.le_of_ble_eq_true rfl) ?_
  show wW (zK sc) zM144 0 [(0, .inr (.inr (.inl (some (26, t))))), (1, .inl x), (2, .inr (.inr (.inl (some (1, s)))))] [] n m0 _
  have hF : zfr (fun k i j => (k = 1 ∧ 101 ≤ i ∧ i < 171 ∧ j = 1) ∨ (k = 2 ∧ 101 ≤ i ∧ i < 171) ∨ (k = 28 ∧ i = t) ∨ (k = 29 ∧ i = t)) m0 m0 := zfr_rf
  have zl8 := zlim_le s
  refine ww_go 5 (pc' := 7) (L' := [(0, .inr (.inr (.inl (some (26, t))))), (1, .inl x), (2, .inr (.inr (.inl (some (1, s)))))]) (st' := [.inr (.inr (.inl (some (1, s)))), .inr (.inr (.inl (some (1, 101 + 7 * t + x.toNat))))]) (m' := m0) (o := some ((t < 10) ∧ (t < 10 ∧ 0 ≤ x ∧ x < ((7 : Nat) : Int)))) rfl (show (t < 10) ∧ (t < 10 ∧ 0 ≤ x ∧ x < ((7 : Nat) : Int)) from by omega) ?_
  refine ww_call (vs := [.inr (.inr (.inl (some (1, 101 + 7 * t + x.toNat)))), .inr (.inr (.inl (some (1, s))))]) (r := []) (p := 101 + 7 * t + x.toNat < 171) rfl rfl rfl rfl (show 101 + 7 * t + x.toNat < 171 from by omega) (zs32 (c := c) (by omega) (101 + 7 * t + x.toNat) s hG (by omega)) ?_
  rintro _ _ m3 ⟨rfl, rfl, hGm3, hEm3, hr2⟩
  have hFm3 : zfr (fun k i j => (k = 1 ∧ 101 ≤ i ∧ i < 171 ∧ j = 1) ∨ (k = 2 ∧ 101 ≤ i ∧ i < 171) ∨ (k = 28 ∧ i = t) ∨ (k = 29 ∧ i = t)) m0 m3 := zfr_tr hF hEm3 (fun k i j z => Or.elim z (fun z => (show (k = 1 ∧ 101 ≤ i ∧ i < 171 ∧ j = 1) ∨ (k = 2 ∧ 101 ≤ i ∧ i < 171) ∨ (k = 28 ∧ i = t) ∨ (k = 29 ∧ i = t) from Or.inl ((show k = 1 ∧ 101 ≤ i ∧ i < 171 ∧ j = 1 from by omega)))) (fun z => (show (k = 1 ∧ 101 ≤ i ∧ i < 171 ∧ j = 1) ∨ (k = 2 ∧ 101 ≤ i ∧ i < 171) ∨ (k = 28 ∧ i = t) ∨ (k = 29 ∧ i = t) from Or.inr (Or.inl ((show k = 2 ∧ 101 ≤ i ∧ i < 171 from by omega))))))
  show wW (zK sc) zM144 10 [(0, .inr (.inr (.inl (some (26, t))))), (1, .inl x), (2, .inr (.inr (.inl (some (1, s)))))] [] _ _ _
  refine ww_go 5 (pc' := 17) (L' := [(0, .inr (.inr (.inl (some (26, t))))), (1, .inl x), (2, .inr (.inr (.inl (some (1, s)))))]) (st' := []) (m' := wuI m3 29 t x.toNat 1) (o := some ((t < 10) ∧ (t < 10 ∧ 0 ≤ x ∧ x < ((7 : Nat) : Int) ∧ 0 ≤ (1 : Int) ∧ (1 : Int) ≤ 1))) rfl (show (t < 10) ∧ (t < 10 ∧ 0 ≤ x ∧ x < ((7 : Nat) : Int) ∧ 0 ≤ (1 : Int) ∧ (1 : Int) ≤ 1) from by omega) ?_
  obtain ⟨m4, hm4⟩ : ∃ zq9 : wm, zq9 = wuI m3 29 t x.toNat 1 := ⟨_, rfl⟩
  rw [← hm4]
  have hGm4 : zB c m4 := by rw [hm4]; exact zB_wI rfl (show 0 ≤ (1 : Int) ∧ (1 : Int) ≤ 1 from by omega) hGm3
  have hFm4 : zfr (fun k i j => (k = 1 ∧ 101 ≤ i ∧ i < 171 ∧ j = 1) ∨ (k = 2 ∧ 101 ≤ i ∧ i < 171) ∨ (k = 28 ∧ i = t) ∨ (k = 29 ∧ i = t)) m0 m4 := by rw [hm4]; exact zfr_wI hFm3 (show (29 = 1 ∧ 101 ≤ t ∧ t < 171 ∧ x.toNat = 1) ∨ (29 = 2 ∧ 101 ≤ t ∧ t < 171) ∨ (29 = 28 ∧ t = t) ∨ (29 = 29 ∧ t = t) from Or.inr (Or.inr (Or.inr (⟨rfl, rfl⟩))))
  have s5 : m4.1 29 t x.toNat = (1 : Int) := by rw [hm4]; exact wuI_self
  refine ww_go 2 (pc' := 19) (L' := [(3, .inl 0), (0, .inr (.inr (.inl (some (26, t))))), (1, .inl x), (2, .inr (.inr (.inl (some (1, s)))))]) (st' := []) (m' := m4) (o := none) rfl trivial ?_
  refine ww_sub (L := [(0, .inr (.inr (.inl (some (26, t))))), (1, .inl x), (2, .inr (.inr (.inl (some (1, s))))), (3, .inl 0)]) ⟨rfl, rfl, rfl, rfl, trivial⟩ rfl rfl ?_
  exact (zs144_l19 hc x t s hG h0 _) 0 m4 rfl (zB_mono hGm4 (by omega)) hFm4 (by omega)
set_option maxRecDepth 8000 in
theorem zs157_l18 {sc : xSc} {n : Nat × Nat} {m0 : wm} {c : Int} (hc : 0 ≤ c ∧ c ≤ 1000000) (t : Nat) (s : Nat) (hG : zB c m0) (h0 : t < 10 ∧ s < 10) : ∀ (d : Nat), ∀ (y : Int) (m : wm), (7 - y).toNat = d → zB c m → zfr (fun k i j => (k = 1 ∧ 101 ≤ i ∧ i < 171 ∧ j = 1) ∨ (k = 2 ∧ 101 ≤ i ∧ i < 171) ∨ (k = 26 ∧ i = t) ∨ (k = 30 ∧ i = t) ∨ (k = 31 ∧ i = t) ∨ (k = 32 ∧ i = t)) m0 m → (0 ≤ y ∧ y ≤ 7) →  wW (zK sc) zM157 18 [(0, .inr (.inr (.inl (some (26, t))))), (1, .inr (.inr (.inl (some (26, s))))), (2, .inl y)] [] n m (wr (fun vv n1 m1 => vv = none ∧ n = n1 ∧ zB c m1 ∧ zfr (fun k i j => (k = 1 ∧ 101 ≤ i ∧ i < 171 ∧ j = 1) ∨ (k = 2 ∧ 101 ≤ i ∧ i < 171) ∨ (k = 26 ∧ i = t) ∨ (k = 30 ∧ i = t) ∨ (k = 31 ∧ i = t) ∨ (k = 32 ∧ i = t)) m0 m1 ∧ True)) := by
  intro d
  induction d using Nat.strongRecOn with
  | ind d ih =>
    intro y m hd hGm hFm hi
    have b1 : 0 ≤ m.1 26 t 9 ∧ m.1 26 t 9 ≤ 6 := hGm.1 26 _ rfl _ _
    refine ww_go 3 (pc' := 23) (L' := [(0, .inr (.inr (.inl (some (26, t))))), (1, .inr (.inr (.inl (some (26, s))))), (2, .inl y)]) (st' := [.inl (m.1 26 t 9), .inl y]) (m' := m) (o := some ((t < 10))) rfl (show (t < 10) from by omega) ?_
    refine ww_ic (t := 47) rfl rfl (by omega) (fun (h2 : m.1 26 t 9 < y) => ?_) (fun (h2 : ¬ (m.1 26 t 9 < y)) => ?_)
    · show wW (zK sc) zM157 47 [(0, .inr (.inr (.inl (some (26, t))))), (1, .inr (.inr (.inl (some (26, s))))), (2, .inl y)] [] _ _ _
      refine ww_go 8 (pc' := 62) (L' := [(0, .inr (.inr (.inl (some (26, t))))), (1, .inr (.inr (.inl (some (26, s))))), (2, .inl y)]) (st' := []) (m' := wcp m 30 s 0 30 t 0 6) (o := some ((s < 10) ∧ (t < 10) ∧ (s < 10 ∧ t < 10 ∧ 0 ≤ (6 : Int) ∧ 0 ≤ (0 : Int) ∧ 0 ≤ (0 : Int) ∧ 0 + 6 ≤ ((6 : Nat) : Int) ∧ 0 + 6 ≤ ((6 : Nat) : Int)))) rfl (show (s < 10) ∧ (t < 10) ∧ (s < 10 ∧ t < 10 ∧ 0 ≤ (6 : Int) ∧ 0 ≤ (0 : Int) ∧ 0 ≤ (0 : Int) ∧ 0 + 6 ≤ ((6 : Nat) : Int) ∧ 0 + 6 ≤ ((6 : Nat) : Int)) from by omega) ?_
      obtain ⟨m3, hm3⟩ : ∃ zq9 : wm, zq9 = wcp m 30 s 0 30 t 0 6 := ⟨_, rfl⟩
      rw [← hm3]
      have hGm3 : zB c m3 := by rw [hm3]; exact zB_cp rfl rfl hGm
      have hFm3 : zfr (fun k i j => (k = 1 ∧ 101 ≤ i ∧ i < 171 ∧ j = 1) ∨ (k = 2 ∧ 101 ≤ i ∧ i < 171) ∨ (k = 26 ∧ i = t) ∨ (k = 30 ∧ i = t) ∨ (k = 31 ∧ i = t) ∨ (k = 32 ∧ i = t)) m0 m3 := by rw [hm3]; exact zfr_cp hFm (fun j => (show (30 = 1 ∧ 101 ≤ t ∧ t < 171 ∧ j = 1) ∨ (30 = 2 ∧ 101 ≤ t ∧ t < 171) ∨ (30 = 26 ∧ t = t) ∨ (30 = 30 ∧ t = t) ∨ (30 = 31 ∧ t = t) ∨ (30 = 32 ∧ t = t) from by omega))
      refine ww_go 8 (pc' := 77) (L' := [(0, .inr (.inr (.inl (some (26, t))))), (1, .inr (.inr (.inl (some (26, s))))), (2, .inl y)]) (st' := []) (m' := wcp m3 31 s 0 31 t 0 6) (o := some ((s < 10) ∧ (t < 10) ∧ (s < 10 ∧ t < 10 ∧ 0 ≤ (6 : Int) ∧ 0 ≤ (0 : Int) ∧ 0 ≤ (0 : Int) ∧ 0 + 6 ≤ ((6 : Nat) : Int) ∧ 0 + 6 ≤ ((6 : Nat) : Int)))) rfl (show (s < 10) ∧ (t < 10) ∧ (s < 10 ∧ t < 10 ∧ 0 ≤ (6 : Int) ∧ 0 ≤ (0 : Int) ∧ 0 ≤ (0 : Int) ∧ 0 + 6 ≤ ((6 : Nat) : Int) ∧ 0 + 6 ≤ ((6 : Nat) : Int)) from by omega) ?_
      obtain ⟨m4, hm4⟩ : ∃ zq9 : wm, zq9 = wcp m3 31 s 0 31 t 0 6 := ⟨_, rfl⟩
      rw [← hm4]
      have hGm4 : zB c m4 := by rw [hm4]; exact zB_cp rfl rfl hGm3
      have hFm4 : zfr (fun k i j => (k = 1 ∧ 101 ≤ i ∧ i < 171 ∧ j = 1) ∨ (k = 2 ∧ 101 ≤ i ∧ i < 171) ∨ (k = 26 ∧ i = t) ∨ (k = 30 ∧ i = t) ∨ (k = 31 ∧ i = t) ∨ (k = 32 ∧ i = t)) m0 m4 := by rw [hm4]; exact zfr_cp hFm3 (fun j => (show (31 = 1 ∧ 101 ≤ t ∧ t < 171 ∧ j = 1) ∨ (31 = 2 ∧ 101 ≤ t ∧ t < 171) ∨ (31 = 26 ∧ t = t) ∨ (31 = 30 ∧ t = t) ∨ (31 = 31 ∧ t = t) ∨ (31 = 32 ∧ t = t) from by omega))
      refine ww_go 8 (pc' := 92) (L' := [(0, .inr (.inr (.inl (some (26, t))))), (1, .inr (.inr (.inl (some (26, s))))), (2, .inl y)]) (st' := []) (m' := wcp m4 32 s 0 32 t 0 6) (o := some ((s < 10) ∧ (t < 10) ∧ (s < 10 ∧ t < 10 ∧ 0 ≤ (6 : Int) ∧ 0 ≤ (0 : Int) ∧ 0 ≤ (0 : Int) ∧ 0 + 6 ≤ ((6 : Nat) : Int) ∧ 0 + 6 ≤ ((6 : Nat) : Int)))) rfl (show (s < 10) ∧ (t < 10) ∧ (s < 10 ∧ t < 10 ∧ 0 ≤ (6 : Int) ∧ 0 ≤ (0 : Int) ∧ 0 ≤ (0 : Int) ∧ 0 + 6 ≤ ((6 : Nat) : Int) ∧ 0 + 6 ≤ ((6 : Nat) : Int)) from by omega) ?_
      obtain ⟨m5, hm5⟩ : ∃ zq9 : wm, zq9 = wcp m4 32 s 0 32 t 0 6 := ⟨_, rfl⟩
      rw [← hm5]
      have hGm5 : zB c m5 := by rw [hm5]; exact zB_cp rfl rfl hGm4
      have hFm5 : zfr (fun k i j => (k = 1 ∧ 101 ≤ i ∧ i < 171 ∧ j = 1) ∨ (k = 2 ∧ 101 ≤ i ∧ i < 171) ∨ (k = 26 ∧ i = t) ∨ (k = 30 ∧ i = t) ∨ (k = 31 ∧ i = t) ∨ (k = 32 ∧ i = t)) m0 m5 := by rw [hm5]; exact zfr_cp hFm4 (fun j => (show (32 = 1 ∧ 101 ≤ t ∧ t < 171 ∧ j = 1) ∨ (32 = 2 ∧ 101 ≤ t ∧ t < 171) ∨ (32 = 26 ∧ t = t) ∨ (32 = 30 ∧ t = t) ∨ (32 = 31 ∧ t = t) ∨ (32 = 32 ∧ t = t) from by omega))
      exact ww_rV rfl rfl ⟨rfl, rfl, zB_mono hGm5 (by omega), hFm5, by trivial⟩
    · show wW (zK sc) zM157 26 [(0, .inr (.inr (.inl (some (26, t))))), (1, .inr (.inr (.inl (some (26, s))))), (2, .inl y)] [] _ _ _
      refine ww_go 8 (pc' := 38) (L' := [(0, .inr (.inr (.inl (some (26, t))))), (1, .inr (.inr (.inl (some (26, s))))), (2, .inl y)]) (st' := [.inr (.inr (.inl (some (1, 101 + 7 * s + y.toNat)))), .inr (.inr (.inl (some (1, 101 + 7 * t + y.toNat))))]) (m' := m) (o := some ((t < 10) ∧ (t < 10 ∧ 0 ≤ y ∧ y < ((7 : Nat) : Int)) ∧ (s < 10) ∧ (s < 10 ∧ 0 ≤ y ∧ y < ((7 : Nat) : Int)))) rfl (show (t < 10) ∧ (t < 10 ∧ 0 ≤ y ∧ y < ((7 : Nat) : Int)) ∧ (s < 10) ∧ (s < 10 ∧ 0 ≤ y ∧ y < ((7 : Nat) : Int)) from by omega) ?_
      refine ww_call (vs := [.inr (.inr (.inl (some (1, 101 + 7 * t + y.toNat)))), .inr (.inr (.inl (some (1, 101 + 7 * s + y.toNat))))]) (r := []) (p := 101 + 7 * t + y.toNat < 171) rfl rfl rfl rfl (show 101 + 7 * t + y.toNat < 171 from by omega) (zs32 (c := c) (by omega) (101 + 7 * t + y.toNat) (101 + 7 * s + y.toNat) hGm (by omega)) ?_
      rintro _ _ m8 ⟨rfl, rfl, hGm8, hEm8, hr7⟩
      have hFm8 : zfr (fun k i j => (k = 1 ∧ 101 ≤ i ∧ i < 171 ∧ j = 1) ∨ (k = 2 ∧ 101 ≤ i ∧ i < 171) ∨ (k = 26 ∧ i = t) ∨ (k = 30 ∧ i = t) ∨ (k = 31 ∧ i = t) ∨ (k = 32 ∧ i = t)) m0 m8 := zfr_tr hFm hEm8 (fun k i j z => Or.elim z (fun z => (show (k = 1 ∧ 101 ≤ i ∧ i < 171 ∧ j = 1) ∨ (k = 2 ∧ 101 ≤ i ∧ i < 171) ∨ (k = 26 ∧ i = t) ∨ (k = 30 ∧ i = t) ∨ (k = 31 ∧ i = t) ∨ (k = 32 ∧ i = t) from Or.inl ((show k = 1 ∧ 101 ≤ i ∧ i < 171 ∧ j = 1 from by omega)))) (fun z => (show (k = 1 ∧ 101 ≤ i ∧ i < 171 ∧ j = 1) ∨ (k = 2 ∧ 101 ≤ i ∧ i < 171) ∨ (k = 26 ∧ i = t) ∨ (k = 30 ∧ i = t) ∨ (k = 31 ∧ i = t) ∨ (k = 32 ∧ i = t) from Or.inr (Or.inl ((show k = 2 ∧ 101 ≤ i ∧ i < 171 from by omega))))))
      show wW (zK sc) zM157 41 [(0, .inr (.inr (.inl (some (26, t))))), (1, .inr (.inr (.inl (some (26, s))))), (2, .inl y)] [] _ _ _
      refine ww_go 2 (pc' := 18) (L' := [(2, .inl (y + 1)), (0, .inr (.inr (.inl (some (26, t))))), (1, .inr (.inr (.inl (some (26, s)))))]) (st' := []) (m' := m8) (o := none) rfl trivial ?_
      refine ww_sub (L := [(0, .inr (.inr (.inl (some (26, t))))), (1, .inr (.inr (.inl (some (26, s))))), (2, .inl (y + 1))]) ⟨rfl, rfl, rfl, trivial⟩ rfl rfl ?_
      exact (ih _ (by omega)) (y + 1) m8 rfl (zB_mono hGm8 (by omega)) hFm8 (by omega)
set_option maxRecDepth 8000 in
/-- Version.showFrom -/
theorem zs157 {sc : xSc} {n : Nat × Nat} {m0 : wm} {c : Int} (hc : 0 ≤ c ∧ c ≤ 1000000) (t : Nat) (s : Nat) (hG : zB c m0) (h0 : t < 10 ∧ s < 10) : wX (zK sc) 157 [.inr (.inr (.inl (some (26, t)))), .inr (.inr (.inl (some (26, s))))] n m0 (wr (fun vv n1 m1 => vv = none ∧ n = n1 ∧ zB c m1 ∧ zfr (fun k i j => (k = 1 ∧ 101 ≤ i ∧ i < 171 ∧ j = 1) ∨ (k = 2 ∧ 101 ≤ i ∧ i < 171) ∨ (k = 26 ∧ i = t) ∨ (k = 30 ∧ i = t) ∨ (k = 31 ∧ i = t) ∨ (k = 32 ∧ i = t)) m0 m1 ∧ True)) := by
  refine wX_of (N := zM157) rfl (Nat.le_of_ble_eq_true rfl) ?_
  show wW (zK sc) zM157 0 [(0, .inr (.inr (.inl (some (26, t))))), (1, .inr (.inr (.inl (some (26, s)))))] [] n m0 _
  have hF : zfr (fun k i j => (k = 1 ∧ 101 ≤ i ∧ i < 171 ∧ j = 1) ∨ (k = 2 ∧ 101 ≤ i ∧ i < 171) ∨ (k = 26 ∧ i = t) ∨ (k = 30 ∧ i = t) ∨ (k = 31 ∧ i = t) ∨ (k = 32 ∧ i = t)) m0 m0 := zfr_rf
  have b1 : 0 ≤ m0.1 26 s 7 ∧ m0.1 26 s 7 ≤ 65535 := hG.1 26 _ rfl _ _
  refine ww_go 4 (pc' := 8) (L' := [(0, .inr (.inr (.inl (some (26, t))))), (1, .inr (.inr (.inl (some (26, s)))))]) (st' := []) (m' := wuI m0 26 t 7 (m0.1 26 s 7)) (o := some ((s < 10) ∧ (t < 10))) rfl (show (s < 10) ∧ (t < 10) from by omega) ?_
  obtain ⟨m2, hm2⟩ : ∃ zq9 : wm, zq9 = wuI m0 26 t 7 (m0.1 26 s 7) := ⟨_, rfl⟩
  rw [← hm2]
  have hGm2 : zB c m2 := by rw [hm2]; exact zB_wI rfl (show 0 ≤ m0.1 26 s 7 ∧ m0.1 26 s 7 ≤ 65535 from by omega) hG
  have hFm2 : zfr (fun k i j => (k = 1 ∧ 101 ≤ i ∧ i < 171 ∧ j = 1) ∨ (k = 2 ∧ 101 ≤ i ∧ i < 171) ∨ (k = 26 ∧ i = t) ∨ (k = 30 ∧ i = t) ∨ (k = 31 ∧ i = t) ∨ (k = 32 ∧ i = t)) m0 m2 := by rw [hm2]; exact zfr_wI hF (show (26 = 1 ∧ 101 ≤ t ∧ t < 171 ∧ 7 = 1) ∨ (26 = 2 ∧ 101 ≤ t ∧ t < 171) ∨ (26 = 26 ∧ t = t) ∨ (26 = 30 ∧ t = t) ∨ (26 = 31 ∧ t = t) ∨ (26 = 32 ∧ t = t) from Or.inr (Or.inr (Or.inl (⟨rfl, rfl⟩))))
  have s3 : m2.1 26 t 7 = m0.1 26 s 7 := by rw [hm2]; exact wuI_self
  have b4 : 0 ≤ m2.1 26 s 9 ∧ m2.1 26 s 9 ≤ 6 := hGm2.1 26 _ rfl _ _
  refine ww_go 4 (pc' := 16) (L' := [(0, .inr (.inr (.inl (some (26, t))))), (1, .inr (.inr (.inl (some (26, s)))))]) (st' := []) (m' := wuI m2 26 t 9 (m2.1 26 s 9)) (o := some ((s < 10) ∧ (t < 10))) rfl (show (s < 10) ∧ (t < 10) from by omega) ?_
  obtain ⟨m5, hm5⟩ : ∃ zq9 : wm, zq9 = wuI m2 26 t 9 (m2.1 26 s 9) := ⟨_, rfl⟩
  rw [← hm5]
  have hGm5 : zB c m5 := by rw [hm5]; exact zB_wI rfl (show 0 ≤ m2.1 26 s 9 ∧ m2.1 26 s 9 ≤ 6 from by omega) hGm2
  have hFm5 : zfr (fun k i j => (k = 1 ∧ 101 ≤ i ∧ i < 171 ∧ j = 1) ∨ (k = 2 ∧ 101 ≤ i ∧ i < 171) ∨ (k = 26 ∧ i = t) ∨ (k = 30 ∧ i = t) ∨ (k = 31 ∧ i = t) ∨ (k = 32 ∧ i = t)) m0 m5 := by rw [hm5]; exact zfr_wI hFm2 (show (26 = 1 ∧ 101 ≤ t ∧ t < 171 ∧ 9 = 1) ∨ (26 = 2 ∧ 101 ≤ t ∧ t < 171) ∨ (26 = 26 ∧ t = t) ∨ (26 = 30 ∧ t = t) ∨ (26 = 31 ∧ t = t) ∨ (26 = 32 ∧ t = t) from Or.inr (Or.inr (Or.inl (⟨rfl, rfl⟩))))
  have s6 : m5.1 26 t 9 = m2.1 26 s 9 := by rw [hm5]; exact wuI_self
  refine ww_go 2 (pc' := 18) (L' := [(2, .inl 0), (0, .inr (.inr (.inl (some (26, t))))), (1, .inr (.inr (.inl (some (26, s)))))]) (st' := []) (m' := m5) (o := none) rfl trivial ?_
  refine ww_sub (L := [(0, .inr (.inr (.inl (some (26, t))))), (1, .inr (.inr (.inl (some (26, s))))), (2, .inl 0)]) ⟨rfl, rfl, rfl, trivial⟩ rfl rfl ?_
  exact (zs157_l18 hc t s hG h0 _) 0 m5 rfl (zB_mono hGm5 (by omega)) hFm5 (by omega)
set_option maxRecDepth 8000 in
/-- Rows.owner -/
theorem zs113 {sc : xSc} {n : Nat × Nat} {m : wm} (f : Int) (x : Int) (h0 : 0 ≤ f ∧ f ≤ 1 ∧ 0 ≤ x ∧ x ≤ 65535) : wX (zK sc) 113 [.inl f, .inl x] n m (wr (fun vv n1 m1 => ∃ r : Int, vv = some (.inl r) ∧ n = n1 ∧ m = m1 ∧ (0 ≤ r ∧ r ≤ 131071))) := by
  refine wX_of (N := zM113) rfl (Nat.le_of_ble_eq_true rfl) ?_
  show wW (zK sc) zM113 0 [(0, .inl f), (1, .inl x)] [] n m _
  have t1 := wshl_rg x 1
  have t2 := wshl_k1 (X := x)
  have t3 := wor_rg (wshl x 1) f
  have t4 : (0 ≤ wshl x 1 ∧ wshl x 1 ≤ 131071 ∧ 0 ≤ f ∧ f ≤ 131071) → (0 ≤ wor (wshl x 1) f ∧ wor (wshl x 1) f ≤ 131071) := fun z => wor_131071 ⟨z.1, z.2.1⟩ z.2.2
  refine ww_go 5 (pc' := 5) (L' := [(0, .inl f), (1, .inl x)]) (st' := [.inl (wor (wshl x 1) f)]) (m' := m) (o := none) rfl trivial ?_
  exact ww_rI rfl rfl ⟨_, rfl, rfl, rfl, by omega⟩
set_option maxRecDepth 8000 in
/-- Rows.firstKey -/
theorem zs108 {sc : xSc} {n : Nat × Nat} {m : wm} (x : Int) (h0 : 0 ≤ x ∧ x ≤ 250000) : wX (zK sc) 108 [.inl x] n m (wr (fun vv n1 m1 => ∃ r : Int, vv = some (.inl r) ∧ n = n1 ∧ m = m1 ∧ (r = 16 * x))) := by
  refine wX_of (N := zM108) rfl (Nat.le_of_ble_eq_true rfl) ?_
  show wW (zK sc) zM108 0 [(0, .inl x)] [] n m _
  have t1 := wshl_rg x 4
  have t2 := wshl_k4 (X := x)
  refine ww_go 3 (pc' := 3) (L' := [(0, .inl x)]) (st' := [.inl (wshl x 4)]) (m' := m) (o := none) rfl trivial ?_
  exact ww_rI rfl rfl ⟨_, rfl, rfl, rfl, by omega⟩
set_option maxRecDepth 8000 in
/-- Rows.lastKey -/
theorem zs112 {sc : xSc} {n : Nat × Nat} {m : wm} (x : Int) (h0 : 0 ≤ x ∧ x ≤ 250000) : wX (zK sc) 112 [.inl x] n m (wr (fun vv n1 m1 => ∃ r : Int, vv = some (.inl r) ∧ n = n1 ∧ m = m1 ∧ (r = 16 * x + 15))) := by
  refine wX_of (N := zM112) rfl (Nat.le_of_ble_eq_true rfl) ?_
  show wW (zK sc) zM112 0 [(0, .inl x)] [] n m _
  have t1 := wshl_rg (x + 1) 4
  have t2 := wshl_k4 (X := x + 1)
  refine ww_go 7 (pc' := 7) (L' := [(0, .inl x)]) (st' := [.inl ((wshl (x + 1) 4) - 1)]) (m' := m) (o := none) rfl trivial ?_
  exact ww_rI rfl rfl ⟨_, rfl, rfl, rfl, by omega⟩
set_option maxRecDepth 8000 in
/-- Rows.key -/
theorem zs111 {sc : xSc} {n : Nat × Nat} {m : wm} (x : Int) (y : Int) (b : Int) (h0 : 0 ≤ x ∧ x ≤ 131071 ∧ 0 ≤ y ∧ y ≤ 6 ∧ 0 ≤ b ∧ b ≤ 1) : wX (zK sc) 111 [.inl x, .inl y, .inl b] n m (wr (fun vv n1 m1 => ∃ r : Int, vv = some (.inl r) ∧ n = n1 ∧ m = m1 ∧ (r = 16 * x + 2 * y + b))) := by
  refine wX_of (N := zM111) rfl (Nat.le_of_ble_eq_true rfl) ?_
  show wW (zK sc) zM111 0 [(0, .inl x), (1, .inl y), (2, .inl b)] [] n m _
  have t1 := wshl_rg x 4
  have t2 := wshl_k4 (X := x)
  refine ww_go 9 (pc' := 9) (L' := [(0, .inl x), (1, .inl y), (2, .inl b)]) (st' := [.inl (((wshl x 4) + (y * 2)) + b)]) (m' := m) (o := none) rfl trivial ?_
  exact ww_rI rfl rfl ⟨_, rfl, rfl, rfl, by omega⟩
set_option maxRecDepth 8000 in
/-- Rows.used -/
theorem zs118 {sc : xSc} {n : Nat × Nat} {m : wm} {c : Int} (hc : 0 ≤ c ∧ c ≤ 1000000)  (hG : zB c m) : wX (zK sc) 118 [.inr (.inr (.inl (some (22, 0))))] n m (wr (fun vv n1 m1 => ∃ r : Int, vv = some (.inl r) ∧ n = n1 ∧ m = m1 ∧ (r = m.1 22 0 3 ∧ 0 ≤ r ∧ r ≤ 24))) := by
  refine wX_of (N := zM118) rfl (Nat.le_of_ble_eq_true rfl) ?_
  show wW (zK sc) zM118 0 [(0, .inr (.inr (.inl (some (22, 0)))))] [] n m _
  have b1 : 0 ≤ m.1 22 0 3 ∧ m.1 22 0 3 ≤ 24 := hG.1 22 _ rfl _ _
  refine ww_go 2 (pc' := 4) (L' := [(0, .inr (.inr (.inl (some (22, 0)))))]) (st' := [.inl (m.1 22 0 3)]) (m' := m) (o := some ((0 < 1))) rfl (show (0 < 1) from by omega) ?_
  exact ww_rI rfl rfl ⟨_, rfl, rfl, rfl, by exact ⟨rfl, by omega, by omega⟩⟩
set_option maxRecDepth 8000 in
/-- Rows.isFull -/
theorem zs110 {sc : xSc} {n : Nat × Nat} {m : wm} {c : Int} (hc : 0 ≤ c ∧ c ≤ 1000000)  (hG : zB c m) : wX (zK sc) 110 [.inr (.inr (.inl (some (22, 0))))] n m (wr (fun vv n1 m1 => ∃ r : Int, vv = some (.inl r) ∧ n = n1 ∧ m = m1 ∧ ((r = 1 ∧ m.1 22 0 3 = 24) ∨ (r = 0 ∧ m.1 22 0 3 ≤ 23)))) := by
  refine wX_of (N := zM110) rfl (Nat.le_of_ble_eq_true rfl) ?_
  show wW (zK sc) zM110 0 [(0, .inr (.inr (.inl (some (22, 0)))))] [] n m _
  have b1 : 0 ≤ m.1 22 0 3 ∧ m.1 22 0 3 ≤ 24 := hG.1 22 _ rfl _ _
  refine ww_go 3 (pc' := 6) (L' := [(0, .inr (.inr (.inl (some (22, 0)))))]) (st' := [.inl 24, .inl (m.1 22 0 3)]) (m' := m) (o := some ((0 < 1))) rfl (show (0 < 1) from by omega) ?_
  refine ww_ic (t := 13) rfl rfl (by omega) (fun (h2 : m.1 22 0 3 < 24) => ?_) (fun (h2 : ¬ (m.1 22 0 3 < 24)) => ?_)
  · show wW (zK sc) zM110 13 [(0, .inr (.inr (.inl (some (22, 0)))))] [] _ _ _
    refine ww_go 1 (pc' := 14) (L' := [(0, .inr (.inr (.inl (some (22, 0)))))]) (st' := [.inl 0]) (m' := m) (o := none) rfl trivial ?_
    exact ww_rB rfl rfl (by omega) ⟨_, rfl, rfl, rfl, by omega⟩
  · show wW (zK sc) zM110 9 [(0, .inr (.inr (.inl (some (22, 0)))))] [] _ _ _
    refine ww_go 2 (pc' := 14) (L' := [(0, .inr (.inr (.inl (some (22, 0)))))]) (st' := [.inl 1]) (m' := m) (o := none) rfl trivial ?_
    exact ww_rB rfl rfl (by omega) ⟨_, rfl, rfl, rfl, by omega⟩
set_option maxRecDepth 8000 in
/-- Rows.ownerAt -/
theorem zs114 {sc : xSc} {n : Nat × Nat} {m : wm} {c : Int} (hc : 0 ≤ c ∧ c ≤ 1000000) (x : Int) (hG : zB c m) (h0 : -2147483648 ≤ x ∧ x ≤ 2147483647) : wX (zK sc) 114 [.inr (.inr (.inl (some (22, 0)))), .inl x] n m (wr (fun vv n1 m1 => ∃ r : Int, vv = some (.inl r) ∧ n = n1 ∧ m = m1 ∧ (0 ≤ r ∧ r ≤ 250000))) := by
  refine wX_of (N := zM114) rfl (Nat.le_of_ble_eq_true rfl) ?_
  show wW (zK sc) zM114 0 [(0, .inr (.inr (.inl (some (22, 0))))), (1, .inl x)] [] n m _
  refine ww_go 1 (pc' := 1) (L' := [(0, .inr (.inr (.inl (some (22, 0))))), (1, .inl x)]) (st' := [.inl x]) (m' := m) (o := none) rfl trivial ?_
  refine ww_if (t := 23) rfl rfl (by omega) (fun (h1 : x < 0) => ?_) (fun (h1 : ¬ (x < 0)) => ?_)
  · show wW (zK sc) zM114 23 [(0, .inr (.inr (.inl (some (22, 0))))), (1, .inl x)] [] _ _ _
    refine ww_go 1 (pc' := 24) (L' := [(0, .inr (.inr (.inl (some (22, 0))))), (1, .inl x)]) (st' := [.inl 0]) (m' := m) (o := none) rfl trivial ?_
    exact ww_rI rfl rfl ⟨_, rfl, rfl, rfl, by omega⟩
  · show wW (zK sc) zM114 4 [(0, .inr (.inr (.inl (some (22, 0))))), (1, .inl x)] [] _ _ _
    have b2 : 0 ≤ m.1 22 0 3 ∧ m.1 22 0 3 ≤ 24 := hG.1 22 _ rfl _ _
    refine ww_go 3 (pc' := 9) (L' := [(0, .inr (.inr (.inl (some (22, 0))))), (1, .inl x)]) (st' := [.inl (m.1 22 0 3), .inl x]) (m' := m) (o := some ((0 < 1))) rfl (show (0 < 1) from by omega) ?_
    refine ww_ic (t := 23) rfl rfl (by omega) (fun (h3 : m.1 22 0 3 ≤ x) => ?_) (fun (h3 : ¬ (m.1 22 0 3 ≤ x)) => ?_)
    · show wW (zK sc) zM114 23 [(0, .inr (.inr (.inl (some (22, 0))))), (1, .inl x)] [] _ _ _
      refine ww_go 1 (pc' := 24) (L' := [(0, .inr (.inr (.inl (some (22, 0))))), (1, .inl x)]) (st' := [.inl 0]) (m' := m) (o := none) rfl trivial ?_
      exact ww_rI rfl rfl ⟨_, rfl, rfl, rfl, by omega⟩
    · show wW (zK sc) zM114 12 [(0, .inr (.inr (.inl (some (22, 0))))), (1, .inl x)] [] _ _ _
      have b4 : 0 ≤ m.1 23 0 x.toNat ∧ m.1 23 0 x.toNat ≤ 4000000 := hG.1 23 _ rfl _ _
      have t5 := wshr_rg (m.1 23 0 x.toNat) 4
      have t6 := wshr_k4 (X := m.1 23 0 x.toNat)
      refine ww_go 7 (pc' := 24) (L' := [(0, .inr (.inr (.inl (some (22, 0))))), (1, .inl x)]) (st' := [.inl (wshr (m.1 23 0 x.toNat) 4)]) (m' := m) (o := some ((0 < 1) ∧ (0 < 1 ∧ 0 ≤ x ∧ x < ((24 : Nat) : Int)))) rfl (show (0 < 1) ∧ (0 < 1 ∧ 0 ≤ x ∧ x < ((24 : Nat) : Int)) from by omega) ?_
      exact ww_rI rfl rfl ⟨_, rfl, rfl, rfl, by omega⟩
set_option maxRecDepth 8000 in
theorem zs116_l5 {sc : xSc} {n : Nat × Nat} {m : wm} {c : Int} (hc : 0 ≤ c ∧ c ≤ 1000000) (x : Int) (y : Int) (hG : zB c m) (h0 : -2147483648 ≤ x ∧ x ≤ 2147483647 ∧ -2147483648 ≤ y ∧ y ≤ 2147483647) : ∀ (d : Nat), ∀ (z : Int) (w : Int), (24 - w).toNat = d → (0 ≤ w ∧ w ≤ 24 ∧ 0 ≤ z ∧ z ≤ w) →  wW (zK sc) zM116 5 [(0, .inr (.inr (.inl (some (22, 0))))), (1, .inl x), (2, .inl y), (3, .inl z), (4, .inl w)] [] n m (wr (fun vv n1 m1 => ∃ r : Int, vv = some (.inl r) ∧ n = n1 ∧ m = m1 ∧ (0 ≤ r ∧ r ≤ 24))) := by
  intro d
  induction d using Nat.strongRecOn with
  | ind d ih =>
    intro z w hd hi
    have b1 : 0 ≤ m.1 22 0 3 ∧ m.1 22 0 3 ≤ 24 := hG.1 22 _ rfl _ _
    refine ww_go 3 (pc' := 11) (L' := [(0, .inr (.inr (.inl (some (22, 0))))), (1, .inl x), (2, .inl y), (3, .inl z), (4, .inl w)]) (st' := [.inl (m.1 22 0 3), .inl w]) (m' := m) (o := some ((0 < 1))) rfl (show (0 < 1) from by omega) ?_
    refine ww_ic (t := 45) rfl rfl (by omega) (fun (h2 : m.1 22 0 3 ≤ w) => ?_) (fun (h2 : ¬ (m.1 22 0 3 ≤ w)) => ?_)
    · show wW (zK sc) zM116 45 [(0, .inr (.inr (.inl (some (22, 0))))), (1, .inl x), (2, .inl y), (3, .inl z), (4, .inl w)] [] _ _ _
      refine ww_go 1 (pc' := 46) (L' := [(0, .inr (.inr (.inl (some (22, 0))))), (1, .inl x), (2, .inl y), (3, .inl z), (4, .inl w)]) (st' := [.inl z]) (m' := m) (o := none) rfl trivial ?_
      exact ww_rI rfl rfl ⟨_, rfl, rfl, rfl, by omega⟩
    · show wW (zK sc) zM116 14 [(0, .inr (.inr (.inl (some (22, 0))))), (1, .inl x), (2, .inl y), (3, .inl z), (4, .inl w)] [] _ _ _
      have b3 : 0 ≤ m.1 23 0 w.toNat ∧ m.1 23 0 w.toNat ≤ 4000000 := hG.1 23 _ rfl _ _
      refine ww_go 5 (pc' := 22) (L' := [(0, .inr (.inr (.inl (some (22, 0))))), (1, .inl x), (2, .inl y), (3, .inl z), (4, .inl w)]) (st' := [.inl x, .inl (m.1 23 0 w.toNat)]) (m' := m) (o := some ((0 < 1) ∧ (0 < 1 ∧ 0 ≤ w ∧ w < ((24 : Nat) : Int)))) rfl (show (0 < 1) ∧ (0 < 1 ∧ 0 ≤ w ∧ w < ((24 : Nat) : Int)) from by omega) ?_
      refine ww_ic (t := 39) rfl rfl (by omega) (fun (h4 : m.1 23 0 w.toNat < x) => ?_) (fun (h4 : ¬ (m.1 23 0 w.toNat < x)) => ?_)
      · show wW (zK sc) zM116 39 [(0, .inr (.inr (.inl (some (22, 0))))), (1, .inl x), (2, .inl y), (3, .inl z), (4, .inl w)] [] _ _ _
        refine ww_go 2 (pc' := 5) (L' := [(4, .inl (w + 1)), (0, .inr (.inr (.inl (some (22, 0))))), (1, .inl x), (2, .inl y), (3, .inl z)]) (st' := []) (m' := m) (o := none) rfl trivial ?_
        refine ww_sub (L := [(0, .inr (.inr (.inl (some (22, 0))))), (1, .inl x), (2, .inl y), (3, .inl z), (4, .inl (w + 1))]) ⟨rfl, rfl, rfl, rfl, rfl, trivial⟩ rfl rfl ?_
        exact (ih _ (by omega)) z (w + 1) rfl (by omega)
      · show wW (zK sc) zM116 25 [(0, .inr (.inr (.inl (some (22, 0))))), (1, .inl x), (2, .inl y), (3, .inl z), (4, .inl w)] [] _ _ _
        have b5 : 0 ≤ m.1 23 0 w.toNat ∧ m.1 23 0 w.toNat ≤ 4000000 := hG.1 23 _ rfl _ _
        refine ww_go 5 (pc' := 33) (L' := [(0, .inr (.inr (.inl (some (22, 0))))), (1, .inl x), (2, .inl y), (3, .inl z), (4, .inl w)]) (st' := [.inl y, .inl (m.1 23 0 w.toNat)]) (m' := m) (o := some ((0 < 1) ∧ (0 < 1 ∧ 0 ≤ w ∧ w < ((24 : Nat) : Int)))) rfl (show (0 < 1) ∧ (0 < 1 ∧ 0 ≤ w ∧ w < ((24 : Nat) : Int)) from by omega) ?_
        refine ww_ic (t := 39) rfl rfl (by omega) (fun (h6 : y < m.1 23 0 w.toNat) => ?_) (fun (h6 : ¬ (y < m.1 23 0 w.toNat)) => ?_)
        · show wW (zK sc) zM116 39 [(0, .inr (.inr (.inl (some (22, 0))))), (1, .inl x), (2, .inl y), (3, .inl z), (4, .inl w)] [] _ _ _
          refine ww_go 2 (pc' := 5) (L' := [(4, .inl (w + 1)), (0, .inr (.inr (.inl (some (22, 0))))), (1, .inl x), (2, .inl y), (3, .inl z)]) (st' := []) (m' := m) (o := none) rfl trivial ?_
          refine ww_sub (L := [(0, .inr (.inr (.inl (some (22, 0))))), (1, .inl x), (2, .inl y), (3, .inl z), (4, .inl (w + 1))]) ⟨rfl, rfl, rfl, rfl, rfl, trivial⟩ rfl rfl ?_
          exact (ih _ (by omega)) z (w + 1) rfl (by omega)
        · show wW (zK sc) zM116 36 [(0, .inr (.inr (.inl (some (22, 0))))), (1, .inl x), (2, .inl y), (3, .inl z), (4, .inl w)] [] _ _ _
          refine ww_go 3 (pc' := 5) (L' := [(4, .inl (w + 1)), (3, .inl (z + 1)), (0, .inr (.inr (.inl (some (22, 0))))), (1, .inl x), (2, .inl y)]) (st' := []) (m' := m) (o := none) rfl trivial ?_
          refine ww_sub (L := [(0, .inr (.inr (.inl (some (22, 0))))), (1, .inl x), (2, .inl y), (3, .inl (z + 1)), (4, .inl (w + 1))]) ⟨rfl, rfl, rfl, rfl, rfl, trivial⟩ rfl rfl ?_
          exact (ih _ (by omega)) (z + 1) (w + 1) rfl (by omega)
set_option maxRecDepth 8000 in
/-- Rows.rowsIn -/
theorem zs116 {sc : xSc} {n : Nat × Nat} {m : wm} {c : Int} (hc : 0 ≤ c ∧ c ≤ 1000000) (x : Int) (y : Int) (hG : zB c m) (h0 : -2147483648 ≤ x ∧ x ≤ 2147483647 ∧ -2147483648 ≤ y ∧ y ≤ 2147483647) : wX (zK sc) 116 [.inr (.inr (.inl (some (22, 0)))), .inl x, .inl y] n m (wr (fun vv n1 m1 => ∃ r : Int, vv = some (.inl r) ∧ n = n1 ∧ m = m1 ∧ (0 ≤ r ∧ r ≤ 24))) := by
  refine wX_of (N := zM116) rfl (Nat.le_of_ble_eq_true rfl) ?_
  show wW (zK sc) zM116 0 [(0, .inr (.inr (.inl (some (22, 0))))), (1, .inl x), (2, .inl y)] [] n m _
  refine ww_go 4 (pc' := 5) (L' := [(4, .inl 0), (3, .inl 0), (0, .inr (.inr (.inl (some (22, 0))))), (1, .inl x), (2, .inl y)]) (st' := []) (m' := m) (o := none) rfl trivial ?_
  refine ww_sub (L := [(0, .inr (.inr (.inl (some (22, 0))))), (1, .inl x), (2, .inl y), (3, .inl 0), (4, .inl 0)]) ⟨rfl, rfl, rfl, rfl, rfl, trivial⟩ rfl rfl ?_
  exact (zs116_l5 hc x y hG h0 _) 0 0 rfl (by omega)
set_option maxRecDepth 8000 in
theorem zs106_l5 {sc : xSc} {n : Nat × Nat} {m0 : wm} {c : Int} (hc : 0 ≤ c ∧ c ≤ 1000000) (x : Int) (y : Int) (hG : zB c m0) (h0 : -2147483648 ≤ x ∧ x ≤ 2147483647 ∧ -2147483648 ≤ y ∧ y ≤ 2147483647) : ∀ (d : Nat), ∀ (z : Int) (w : Int) (m : wm), (24 - w).toNat = d → zB c m → zfr (fun k i j => (k = 22) ∨ (k = 23) ∨ (k = 24) ∨ (k = 25)) m0 m → (0 ≤ w ∧ w ≤ 24 ∧ 0 ≤ z ∧ z ≤ w ∧ w ≤ m.1 22 0 3) →  wW (zK sc) zM106 5 [(0, .inr (.inr (.inl (some (22, 0))))), (1, .inl x), (2, .inl y), (3, .inl z), (4, .inl w)] [] n m (wr (fun vv n1 m1 => vv = none ∧ n = n1 ∧ zB c m1 ∧ zfr (fun k i j => (k = 22) ∨ (k = 23) ∨ (k = 24) ∨ (k = 25)) m0 m1 ∧ True)) := by
  intro d
  induction d using Nat.strongRecOn with
  | ind d ih =>
    intro z w m hd hGm hFm hi
    have bu0 : 0 ≤ m0.1 22 0 3 ∧ m0.1 22 0 3 ≤ 24 := hG.1 22 _ rfl _ _
    have bu : 0 ≤ m.1 22 0 3 ∧ m.1 22 0 3 ≤ 24 := hGm.1 22 _ rfl _ _
    have b1 : 0 ≤ m.1 22 0 3 ∧ m.1 22 0 3 ≤ 24 := hGm.1 22 _ rfl _ _
    refine ww_go 3 (pc' := 11) (L' := [(0, .inr (.inr (.inl (some (22, 0))))), (1, .inl x), (2, .inl y), (3, .inl z), (4, .inl w)]) (st' := [.inl (m.1 22 0 3), .inl w]) (m' := m) (o := some ((0 < 1))) rfl (show (0 < 1) from by omega) ?_
    refine ww_ic (t := 84) rfl rfl (by omega) (fun (h2 : m.1 22 0 3 ≤ w) => ?_) (fun (h2 : ¬ (m.1 22 0 3 ≤ w)) => ?_)
    · show wW (zK sc) zM106 84 [(0, .inr (.inr (.inl (some (22, 0))))), (1, .inl x), (2, .inl y), (3, .inl z), (4, .inl w)] [] _ _ _
      refine ww_go 3 (pc' := 89) (L' := [(0, .inr (.inr (.inl (some (22, 0))))), (1, .inl x), (2, .inl y), (3, .inl z), (4, .inl w)]) (st' := []) (m' := wuI m 22 0 3 z) (o := some ((0 < 1))) rfl (show (0 < 1) from by omega) ?_
      obtain ⟨m3, hm3⟩ : ∃ zq9 : wm, zq9 = wuI m 22 0 3 z := ⟨_, rfl⟩
      rw [← hm3]
      have hGm3 : zB c m3 := by rw [hm3]; exact zB_wI rfl (show 0 ≤ z ∧ z ≤ 24 from by omega) hGm
      have hFm3 : zfr (fun k i j => (k = 22) ∨ (k = 23) ∨ (k = 24) ∨ (k = 25)) m0 m3 := by rw [hm3]; exact zfr_wI hFm (show (22 = 22) ∨ (22 = 23) ∨ (22 = 24) ∨ (22 = 25) from Or.inl rfl)
      have s4 : m3.1 22 0 3 = z := by rw [hm3]; exact wuI_self
      exact ww_rV rfl rfl ⟨rfl, rfl, zB_mono hGm3 (by omega), hFm3, by trivial⟩
    · show wW (zK sc) zM106 14 [(0, .inr (.inr (.inl (some (22, 0))))), (1, .inl x), (2, .inl y), (3, .inl z), (4, .inl w)] [] _ _ _
      have b5 : 0 ≤ m.1 23 0 w.toNat ∧ m.1 23 0 w.toNat ≤ 4000000 := hGm.1 23 _ rfl _ _
      refine ww_go 5 (pc' := 22) (L' := [(0, .inr (.inr (.inl (some (22, 0))))), (1, .inl x), (2, .inl y), (3, .inl z), (4, .inl w)]) (st' := [.inl x, .inl (m.1 23 0 w.toNat)]) (m' := m) (o := some ((0 < 1) ∧ (0 < 1 ∧ 0 ≤ w ∧ w < ((24 : Nat) : Int)))) rfl (show (0 < 1) ∧ (0 < 1 ∧ 0 ≤ w ∧ w < ((24 : Nat) : Int)) from by omega) ?_
      refine ww_ic (t := 36) rfl rfl (by omega) (fun (h6 : m.1 23 0 w.toNat < x) => ?_) (fun (h6 : ¬ (m.1 23 0 w.toNat < x)) => ?_)
      · show wW (zK sc) zM106 36 [(0, .inr (.inr (.inl (some (22, 0))))), (1, .inl x), (2, .inl y), (3, .inl z), (4, .inl w)] [] _ _ _
        have b7 : 0 ≤ m.1 23 0 w.toNat ∧ m.1 23 0 w.toNat ≤ 4000000 := hGm.1 23 _ rfl _ _
        refine ww_go 8 (pc' := 49) (L' := [(0, .inr (.inr (.inl (some (22, 0))))), (1, .inl x), (2, .inl y), (3, .inl z), (4, .inl w)]) (st' := []) (m' := wuI m 23 0 z.toNat (m.1 23 0 w.toNat)) (o := some ((0 < 1) ∧ (0 < 1) ∧ (0 < 1 ∧ 0 ≤ w ∧ w < ((24 : Nat) : Int)) ∧ (0 < 1 ∧ 0 ≤ z ∧ z < ((24 : Nat) : Int)))) rfl (show (0 < 1) ∧ (0 < 1) ∧ (0 < 1 ∧ 0 ≤ w ∧ w < ((24 : Nat) : Int)) ∧ (0 < 1 ∧ 0 ≤ z ∧ z < ((24 : Nat) : Int)) from by omega) ?_
        obtain ⟨m8, hm8⟩ : ∃ zq9 : wm, zq9 = wuI m 23 0 z.toNat (m.1 23 0 w.toNat) := ⟨_, rfl⟩
        rw [← hm8]
        have hGm8 : zB c m8 := by rw [hm8]; exact zB_wI rfl (show 0 ≤ m.1 23 0 w.toNat ∧ m.1 23 0 w.toNat ≤ 4000000 from by omega) hGm
        have hFm8 : zfr (fun k i j => (k = 22) ∨ (k = 23) ∨ (k = 24) ∨ (k = 25)) m0 m8 := by rw [hm8]; exact zfr_wI hFm (show (23 = 22) ∨ (23 = 23) ∨ (23 = 24) ∨ (23 = 25) from Or.inr (Or.inl rfl))
        have s9 : m8.1 23 0 z.toNat = m.1 23 0 w.toNat := by rw [hm8]; exact wuI_self
        have w10 : m8.1 22 0 3 = m.1 22 0 3 := by rw [hm8]; rfl
        have b11 : (-2147483648) ≤ m8.1 24 0 w.toNat ∧ m8.1 24 0 w.toNat ≤ 2147483647 := hGm8.1 24 _ rfl _ _
        refine ww_go 8 (pc' := 62) (L' := [(0, .inr (.inr (.inl (some (22, 0))))), (1, .inl x), (2, .inl y), (3, .inl z), (4, .inl w)]) (st' := []) (m' := wuI m8 24 0 z.toNat (m8.1 24 0 w.toNat)) (o := some ((0 < 1) ∧ (0 < 1) ∧ (0 < 1 ∧ 0 ≤ w ∧ w < ((24 : Nat) : Int)) ∧ (0 < 1 ∧ 0 ≤ z ∧ z < ((24 : Nat) : Int)))) rfl (show (0 < 1) ∧ (0 < 1) ∧ (0 < 1 ∧ 0 ≤ w ∧ w < ((24 : Nat) : Int)) ∧ (0 < 1 ∧ 0 ≤ z ∧ z < ((24 : Nat) : Int)) from by omega) ?_
        obtain ⟨m12, hm12⟩ : ∃ zq9 : wm, zq9 = wuI m8 24 0 z.toNat (m8.1 24 0 w.toNat) := ⟨_, rfl⟩
        rw [← hm12]
        have hGm12 : zB c m12 := by rw [hm12]; exact zB_wI rfl (show (-2147483648) ≤ m8.1 24 0 w.toNat ∧ m8.1 24 0 w.toNat ≤ 2147483647 from by omega) hGm8
        have hFm12 : zfr (fun k i j => (k = 22) ∨ (k = 23) ∨ (k = 24) ∨ (k = 25)) m0 m12 := by rw [hm12]; exact zfr_wI hFm8 (show (24 = 22) ∨ (24 = 23) ∨ (24 = 24) ∨ (24 = 25) from Or.inr (Or.inr (Or.inl rfl)))
        have s13 : m12.1 24 0 z.toNat = m8.1 24 0 w.toNat := by rw [hm12]; exact wuI_self
        have w14 : m12.1 22 0 3 = m8.1 22 0 3 := by rw [hm12]; rfl
        refine ww_go 8 (pc' := 75) (L' := [(0, .inr (.inr (.inl (some (22, 0))))), (1, .inl x), (2, .inl y), (3, .inl z), (4, .inl w)]) (st' := []) (m' := wuL m12 25 0 z.toNat (m12.2.1 25 0 w.toNat)) (o := some ((0 < 1) ∧ (0 < 1) ∧ (0 < 1 ∧ 0 ≤ w ∧ w < ((24 : Nat) : Int)) ∧ (0 < 1 ∧ 0 ≤ z ∧ z < ((24 : Nat) : Int)))) rfl (show (0 < 1) ∧ (0 < 1) ∧ (0 < 1 ∧ 0 ≤ w ∧ w < ((24 : Nat) : Int)) ∧ (0 < 1 ∧ 0 ≤ z ∧ z < ((24 : Nat) : Int)) from by omega) ?_
        obtain ⟨m15, hm15⟩ : ∃ zq9 : wm, zq9 = wuL m12 25 0 z.toNat (m12.2.1 25 0 w.toNat) := ⟨_, rfl⟩
        rw [← hm15]
        have hGm15 : zB c m15 := by rw [hm15]; exact zB_wL hGm12
        have hFm15 : zfr (fun k i j => (k = 22) ∨ (k = 23) ∨ (k = 24) ∨ (k = 25)) m0 m15 := by rw [hm15]; exact zfr_wL hFm12 (show (25 = 22) ∨ (25 = 23) ∨ (25 = 24) ∨ (25 = 25) from Or.inr (Or.inr (Or.inr (rfl))))
        have w16 : m15.1 22 0 3 = m12.1 22 0 3 := by rw [hm15]; rfl
        refine ww_go 3 (pc' := 5) (L' := [(4, .inl (w + 1)), (3, .inl (z + 1)), (0, .inr (.inr (.inl (some (22, 0))))), (1, .inl x), (2, .inl y)]) (st' := []) (m' := m15) (o := none) rfl trivial ?_
        refine ww_sub (L := [(0, .inr (.inr (.inl (some (22, 0))))), (1, .inl x), (2, .inl y), (3, .inl (z + 1)), (4, .inl (w + 1))]) ⟨rfl, rfl, rfl, rfl, rfl, trivial⟩ rfl rfl ?_
        exact (ih _ (by omega)) (z + 1) (w + 1) m15 rfl (zB_mono hGm15 (by omega)) hFm15 (by omega)
      · show wW (zK sc) zM106 25 [(0, .inr (.inr (.inl (some (22, 0))))), (1, .inl x), (2, .inl y), (3, .inl z), (4, .inl w)] [] _ _ _
        have b17 : 0 ≤ m.1 23 0 w.toNat ∧ m.1 23 0 w.toNat ≤ 4000000 := hGm.1 23 _ rfl _ _
        refine ww_go 5 (pc' := 33) (L' := [(0, .inr (.inr (.inl (some (22, 0))))), (1, .inl x), (2, .inl y), (3, .inl z), (4, .inl w)]) (st' := [.inl y, .inl (m.1 23 0 w.toNat)]) (m' := m) (o := some ((0 < 1) ∧ (0 < 1 ∧ 0 ≤ w ∧ w < ((24 : Nat) : Int)))) rfl (show (0 < 1) ∧ (0 < 1 ∧ 0 ≤ w ∧ w < ((24 : Nat) : Int)) from by omega) ?_
        refine ww_ic (t := 78) rfl rfl (by omega) (fun (h18 : m.1 23 0 w.toNat ≤ y) => ?_) (fun (h18 : ¬ (m.1 23 0 w.toNat ≤ y)) => ?_)
        · show wW (zK sc) zM106 78 [(0, .inr (.inr (.inl (some (22, 0))))), (1, .inl x), (2, .inl y), (3, .inl z), (4, .inl w)] [] _ _ _
          refine ww_go 2 (pc' := 5) (L' := [(4, .inl (w + 1)), (0, .inr (.inr (.inl (some (22, 0))))), (1, .inl x), (2, .inl y), (3, .inl z)]) (st' := []) (m' := m) (o := none) rfl trivial ?_
          refine ww_sub (L := [(0, .inr (.inr (.inl (some (22, 0))))), (1, .inl x), (2, .inl y), (3, .inl z), (4, .inl (w + 1))]) ⟨rfl, rfl, rfl, rfl, rfl, trivial⟩ rfl rfl ?_
          exact (ih _ (by omega)) z (w + 1) m rfl (zB_mono hGm (by omega)) hFm (by omega)
        · show wW (zK sc) zM106 36 [(0, .inr (.inr (.inl (some (22, 0))))), (1, .inl x), (2, .inl y), (3, .inl z), (4, .inl w)] [] _ _ _
          have b19 : 0 ≤ m.1 23 0 w.toNat ∧ m.1 23 0 w.toNat ≤ 4000000 := hGm.1 23 _ rfl _ _
          refine ww_go 8 (pc' := 49) (L' := [(0, .inr (.inr (.inl (some (22, 0))))), (1, .inl x), (2, .inl y), (3, .inl z), (4, .inl w)]) (st' := []) (m' := wuI m 23 0 z.toNat (m.1 23 0 w.toNat)) (o := some ((0 < 1) ∧ (0 < 1) ∧ (0 < 1 ∧ 0 ≤ w ∧ w < ((24 : Nat) : Int)) ∧ (0 < 1 ∧ 0 ≤ z ∧ z < ((24 : Nat) : Int)))) rfl (show (0 < 1) ∧ (0 < 1) ∧ (0 < 1 ∧ 0 ≤ w ∧ w < ((24 : Nat) : Int)) ∧ (0 < 1 ∧ 0 ≤ z ∧ z < ((24 : Nat) : Int)) from by omega) ?_
          obtain ⟨m20, hm20⟩ : ∃ zq9 : wm, zq9 = wuI m 23 0 z.toNat (m.1 23 0 w.toNat) := ⟨_, rfl⟩
          rw [← hm20]
          have hGm20 : zB c m20 := by rw [hm20]; exact zB_wI rfl (show 0 ≤ m.1 23 0 w.toNat ∧ m.1 23 0 w.toNat ≤ 4000000 from by omega) hGm
          have hFm20 : zfr (fun k i j => (k = 22) ∨ (k = 23) ∨ (k = 24) ∨ (k = 25)) m0 m20 := by rw [hm20]; exact zfr_wI hFm (show (23 = 22) ∨ (23 = 23) ∨ (23 = 24) ∨ (23 = 25) from Or.inr (Or.inl rfl))
          have s21 : m20.1 23 0 z.toNat = m.1 23 0 w.toNat := by rw [hm20]; exact wuI_self
          have w22 : m20.1 22 0 3 = m.1 22 0 3 := by rw [hm20]; rfl
          have b23 : (-2147483648) ≤ m20.1 24 0 w.toNat ∧ m20.1 24 0 w.toNat ≤ 2147483647 := hGm20.1 24 _ rfl _ _
          refine ww_go 8 (pc' := 62) (L' := [(0, .inr (.inr (.inl (some (22, 0))))), (1, .inl x), (2, .inl y), (3, .inl z), (4, .inl w)]) (st' := []) (m' := wuI m20 24 0 z.toNat (m20.1 24 0 w.toNat)) (o := some ((0 < 1) ∧ (0 < 1) ∧ (0 < 1 ∧ 0 ≤ w ∧ w < ((24 : Nat) : Int)) ∧ (0 < 1 ∧ 0 ≤ z ∧ z < ((24 : Nat) : Int)))) rfl (show (0 < 1) ∧ (0 < 1) ∧ (0 < 1 ∧ 0 ≤ w ∧ w < ((24 : Nat) : Int)) ∧ (0 < 1 ∧ 0 ≤ z ∧ z < ((24 : Nat) : Int)) from by omega) ?_
          obtain ⟨m24, hm24⟩ : ∃ zq9 : wm, zq9 = wuI m20 24 0 z.toNat (m20.1 24 0 w.toNat) := ⟨_, rfl⟩
          rw [← hm24]
          have hGm24 : zB c m24 := by rw [hm24]; exact zB_wI rfl (show (-2147483648) ≤ m20.1 24 0 w.toNat ∧ m20.1 24 0 w.toNat ≤ 2147483647 from by omega) hGm20
          have hFm24 : zfr (fun k i j => (k = 22) ∨ (k = 23) ∨ (k = 24) ∨ (k = 25)) m0 m24 := by rw [hm24]; exact zfr_wI hFm20 (show (24 = 22) ∨ (24 = 23) ∨ (24 = 24) ∨ (24 = 25) from Or.inr (Or.inr (Or.inl rfl)))
          have s25 : m24.1 24 0 z.toNat = m20.1 24 0 w.toNat := by rw [hm24]; exact wuI_self
          have w26 : m24.1 22 0 3 = m20.1 22 0 3 := by rw [hm24]; rfl
          refine ww_go 8 (pc' := 75) (L' := [(0, .inr (.inr (.inl (some (22, 0))))), (1, .inl x), (2, .inl y), (3, .inl z), (4, .inl w)]) (st' := []) (m' := wuL m24 25 0 z.toNat (m24.2.1 25 0 w.toNat)) (o := some ((0 < 1) ∧ (0 < 1) ∧ (0 < 1 ∧ 0 ≤ w ∧ w < ((24 : Nat) : Int)) ∧ (0 < 1 ∧ 0 ≤ z ∧ z < ((24 : Nat) : Int)))) rfl (show (0 < 1) ∧ (0 < 1) ∧ (0 < 1 ∧ 0 ≤ w ∧ w < ((24 : Nat) : Int)) ∧ (0 < 1 ∧ 0 ≤ z ∧ z < ((24 : Nat) : Int)) from by omega) ?_
          obtain ⟨m27, hm27⟩ : ∃ zq9 : wm, zq9 = wuL m24 25 0 z.toNat (m24.2.1 25 0 w.toNat) := ⟨_, rfl⟩
          rw [← hm27]
          have hGm27 : zB c m27 := by rw [hm27]; exact zB_wL hGm24
          have hFm27 : zfr (fun k i j => (k = 22) ∨ (k = 23) ∨ (k = 24) ∨ (k = 25)) m0 m27 := by rw [hm27]; exact zfr_wL hFm24 (show (25 = 22) ∨ (25 = 23) ∨ (25 = 24) ∨ (25 = 25) from Or.inr (Or.inr (Or.inr (rfl))))
          have w28 : m27.1 22 0 3 = m24.1 22 0 3 := by rw [hm27]; rfl
          refine ww_go 3 (pc' := 5) (L' := [(4, .inl (w + 1)), (3, .inl (z + 1)), (0, .inr (.inr (.inl (some (22, 0))))), (1, .inl x), (2, .inl y)]) (st' := []) (m' := m27) (o := none) rfl trivial ?_
          refine ww_sub (L := [(0, .inr (.inr (.inl (some (22, 0))))), (1, .inl x), (2, .inl y), (3, .inl (z + 1)), (4, .inl (w + 1))]) ⟨rfl, rfl, rfl, rfl, rfl, trivial⟩ rfl rfl ?_
          exact (ih _ (by omega)) (z + 1) (w + 1) m27 rfl (zB_mono hGm27 (by omega)) hFm27 (by omega)
set_option maxRecDepth 8000 in
/-- Rows.drop -/
theorem zs106 {sc : xSc} {n : Nat × Nat} {m0 : wm} {c : Int} (hc : 0 ≤ c ∧ c ≤ 1000000) (x : Int) (y : Int) (hG : zB c m0) (h0 : -2147483648 ≤ x ∧ x ≤ 2147483647 ∧ -2147483648 ≤ y ∧ y ≤ 2147483647) : wX (zK sc) 106 [.inr (.inr (.inl (some (22, 0)))), .inl x, .inl y] n m0 (wr (fun vv n1 m1 => vv = none ∧ n = n1 ∧ zB c m1 ∧ zfr (fun k i j => (k = 22) ∨ (k = 23) ∨ (k = 24) ∨ (k = 25)) m0 m1 ∧ True)) := by
  refine wX_of (N := zM106) rfl (Nat.le_of_ble_eq_true rfl) ?_
  show wW (zK sc) zM106 0 [(0, .inr (.inr (.inl (some (22, 0))))), (1, .inl x), (2, .inl y)] [] n m0 _
  have hF : zfr (fun k i j => (k = 22) ∨ (k = 23) ∨ (k = 24) ∨ (k = 25)) m0 m0 := zfr_rf
  have bu0 : 0 ≤ m0.1 22 0 3 ∧ m0.1 22 0 3 ≤ 24 := hG.1 22 _ rfl _ _
  refine ww_go 4 (pc' := 5) (L' := [(4, .inl 0), (3, .inl 0), (0, .inr (.inr (.inl (some (22, 0))))), (1, .inl x), (2, .inl y)]) (st' := []) (m' := m0) (o := none) rfl trivial ?_
  refine ww_sub (L := [(0, .inr (.inr (.inl (some (22, 0))))), (1, .inl x), (2, .inl y), (3, .inl 0), (4, .inl 0)]) ⟨rfl, rfl, rfl, rfl, rfl, trivial⟩ rfl rfl ?_
  exact (zs106_l5 hc x y hG h0 _) 0 0 m0 rfl (zB_mono hG (by omega)) hF (by omega)
set_option maxRecDepth 8000 in
/-- Rows.dropAll -/
theorem zs107 {sc : xSc} {n : Nat × Nat} {m0 : wm} {c : Int} (hc : 0 ≤ c ∧ c ≤ 1000000)  (hG : zB c m0) : wX (zK sc) 107 [.inr (.inr (.inl (some (22, 0))))] n m0 (wr (fun vv n1 m1 => vv = none ∧ n = n1 ∧ zB c m1 ∧ zfr (fun k i j => (k = 22) ∨ (k = 23) ∨ (k = 24) ∨ (k = 25)) m0 m1 ∧ True)) := by
  refine wX_of (N := zM107) rfl (Nat.le_of_ble_eq_true rfl) ?_
  show wW (zK sc) zM107 0 [(0, .inr (.inr (.inl (some (22, 0)))))] [] n m0 _
  have hF : zfr (fun k i j => (k = 22) ∨ (k = 23) ∨ (k = 24) ∨ (k = 25)) m0 m0 := zfr_rf
  refine ww_go 3 (pc' := 5) (L' := [(0, .inr (.inr (.inl (some (22, 0)))))]) (st' := []) (m' := wuI m0 22 0 3 0) (o := some ((0 < 1))) rfl (show (0 < 1) from by omega) ?_
  obtain ⟨m1, hm1⟩ : ∃ zq9 : wm, zq9 = wuI m0 22 0 3 0 := ⟨_, rfl⟩
  rw [← hm1]
  have hGm1 : zB c m1 := by rw [hm1]; exact zB_wI rfl (show 0 ≤ (0 : Int) ∧ (0 : Int) ≤ 24 from by omega) hG
  have hFm1 : zfr (fun k i j => (k = 22) ∨ (k = 23) ∨ (k = 24) ∨ (k = 25)) m0 m1 := by rw [hm1]; exact zfr_wI hF (show (22 = 22) ∨ (22 = 23) ∨ (22 = 24) ∨ (22 = 25) from Or.inl rfl)
  have s2 : m1.1 22 0 3 = (0 : Int) := by rw [hm1]; exact wuI_self
  exact ww_rV rfl rfl ⟨rfl, rfl, zB_mono hGm1 (by omega), hFm1, by trivial⟩
set_option maxRecDepth 8000 in
/-- Rows.hasPivotIn -/
theorem zs109 {sc : xSc} {n : Nat × Nat} {m : wm} {c : Int} (hc : 0 ≤ c ∧ c ≤ 1000000) (z : Int) (x : Int) (y : Int) (hG : zB c m) (h0 : 0 ≤ z ∧ z ≤ 23 ∧ -2147483648 ≤ x ∧ x ≤ 2147483647 ∧ -2147483648 ≤ y ∧ y ≤ 2147483647) : wX (zK sc) 109 [.inr (.inr (.inl (some (22, 0)))), .inl z, .inl x, .inl y] n m (wr (fun vv n1 m1 => ∃ r : Int, vv = some (.inl r) ∧ n = n1 ∧ m = m1 ∧ (0 ≤ r ∧ r ≤ 1))) := by
  refine wX_of (N := zM109) rfl (Nat.le_of_ble_eq_true rfl) ?_
  show wW (zK sc) zM109 0 [(0, .inr (.inr (.inl (some (22, 0))))), (1, .inl z), (2, .inl x), (3, .inl y)] [] n m _
  have b1 : 0 ≤ m.1 23 0 z.toNat ∧ m.1 23 0 z.toNat ≤ 4000000 := hG.1 23 _ rfl _ _
  refine ww_go 5 (pc' := 7) (L' := [(0, .inr (.inr (.inl (some (22, 0))))), (1, .inl z), (2, .inl x), (3, .inl y)]) (st' := [.inl x, .inl (m.1 23 0 z.toNat)]) (m' := m) (o := some ((0 < 1) ∧ (0 < 1 ∧ 0 ≤ z ∧ z < ((24 : Nat) : Int)))) rfl (show (0 < 1) ∧ (0 < 1 ∧ 0 ≤ z ∧ z < ((24 : Nat) : Int)) from by omega) ?_
  refine ww_ic (t := 33) rfl rfl (by omega) (fun (h2 : m.1 23 0 z.toNat ≠ x) => ?_) (fun (h2 : ¬ (m.1 23 0 z.toNat ≠ x)) => ?_)
  · show wW (zK sc) zM109 33 [(0, .inr (.inr (.inl (some (22, 0))))), (1, .inl z), (2, .inl x), (3, .inl y)] [] _ _ _
    refine ww_go 1 (pc' := 34) (L' := [(0, .inr (.inr (.inl (some (22, 0))))), (1, .inl z), (2, .inl x), (3, .inl y)]) (st' := [.inl 0]) (m' := m) (o := none) rfl trivial ?_
    exact ww_rB rfl rfl (by omega) ⟨_, rfl, rfl, rfl, by omega⟩
  · show wW (zK sc) zM109 10 [(0, .inr (.inr (.inl (some (22, 0))))), (1, .inl z), (2, .inl x), (3, .inl y)] [] _ _ _
    have b3 : (-2147483648) ≤ m.1 24 0 z.toNat ∧ m.1 24 0 z.toNat ≤ 2147483647 := hG.1 24 _ rfl _ _
    have t4 := wand_rg (m.1 24 0 z.toNat) (-(m.1 24 0 z.toNat))
    have t5 := wand_rg (wand (m.1 24 0 z.toNat) (-(m.1 24 0 z.toNat))) y
    refine ww_go 12 (pc' := 26) (L' := [(0, .inr (.inr (.inl (some (22, 0))))), (1, .inl z), (2, .inl x), (3, .inl y)]) (st' := [.inl (wand (wand (m.1 24 0 z.toNat) (-(m.1 24 0 z.toNat))) y)]) (m' := m) (o := some ((0 < 1) ∧ (0 < 1 ∧ 0 ≤ z ∧ z < ((24 : Nat) : Int)) ∧ (0 < 1) ∧ (0 < 1 ∧ 0 ≤ z ∧ z < ((24 : Nat) : Int)))) rfl (show (0 < 1) ∧ (0 < 1 ∧ 0 ≤ z ∧ z < ((24 : Nat) : Int)) ∧ (0 < 1) ∧ (0 < 1 ∧ 0 ≤ z ∧ z < ((24 : Nat) : Int)) from by omega) ?_
    refine ww_if (t := 33) rfl rfl (by omega) (fun (h6 : wand (wand (m.1 24 0 z.toNat) (-(m.1 24 0 z.toNat))) y = 0) => ?_) (fun (h6 : ¬ (wand (wand (m.1 24 0 z.toNat) (-(m.1 24 0 z.toNat))) y = 0)) => ?_)
    · show wW (zK sc) zM109 33 [(0, .inr (.inr (.inl (some (22, 0))))), (1, .inl z), (2, .inl x), (3, .inl y)] [] _ _ _
      refine ww_go 1 (pc' := 34) (L' := [(0, .inr (.inr (.inl (some (22, 0))))), (1, .inl z), (2, .inl x), (3, .inl y)]) (st' := [.inl 0]) (m' := m) (o := none) rfl trivial ?_
      exact ww_rB rfl rfl (by omega) ⟨_, rfl, rfl, rfl, by omega⟩
    · show wW (zK sc) zM109 29 [(0, .inr (.inr (.inl (some (22, 0))))), (1, .inl z), (2, .inl x), (3, .inl y)] [] _ _ _
      refine ww_go 2 (pc' := 34) (L' := [(0, .inr (.inr (.inl (some (22, 0))))), (1, .inl z), (2, .inl x), (3, .inl y)]) (st' := [.inl 1]) (m' := m) (o := none) rfl trivial ?_
      exact ww_rB rfl rfl (by omega) ⟨_, rfl, rfl, rfl, by omega⟩
set_option maxRecDepth 8000 in
theorem zs117_l5 {sc : xSc} {n : Nat × Nat} {m : wm} {c : Int} (hc : 0 ≤ c ∧ c ≤ 1000000) (x : Int) (y : Int) (hG : zB c m) (h0 : -2147483648 ≤ x ∧ x ≤ 2147483647 ∧ -2147483648 ≤ y ∧ y ≤ 2147483647) : ∀ (d : Nat), ∀ (z : Int) (w : Int), (24 - w).toNat = d → (0 ≤ w ∧ w ≤ 24 ∧ -2147483648 ≤ z ∧ z ≤ 2147483647) →  wW (zK sc) zM117 5 [(0, .inr (.inr (.inl (some (22, 0))))), (1, .inl x), (3, .inl z), (4, .inl w)] [] n m (wr (fun vv n1 m1 => ∃ r : Int, vv = some (.inl r) ∧ n = n1 ∧ m = m1 ∧ (0 ≤ r ∧ r ≤ 1))) := by
  intro d
  induction d using Nat.strongRecOn with
  | ind d ih =>
    intro z w hd hi
    have b1 : 0 ≤ m.1 22 0 3 ∧ m.1 22 0 3 ≤ 24 := hG.1 22 _ rfl _ _
    refine ww_go 3 (pc' := 11) (L' := [(0, .inr (.inr (.inl (some (22, 0))))), (1, .inl x), (3, .inl z), (4, .inl w)]) (st' := [.inl (m.1 22 0 3), .inl w]) (m' := m) (o := some ((0 < 1))) rfl (show (0 < 1) from by omega) ?_
    refine ww_ic (t := 41) rfl rfl (by omega) (fun (h2 : m.1 22 0 3 ≤ w) => ?_) (fun (h2 : ¬ (m.1 22 0 3 ≤ w)) => ?_)
    · show wW (zK sc) zM117 41 [(0, .inr (.inr (.inl (some (22, 0))))), (1, .inl x), (3, .inl z), (4, .inl w)] [] _ _ _
      refine ww_go 1 (pc' := 42) (L' := [(0, .inr (.inr (.inl (some (22, 0))))), (1, .inl x), (3, .inl z), (4, .inl w)]) (st' := [.inl z]) (m' := m) (o := none) rfl trivial ?_
      refine ww_if (t := 49) rfl rfl (by omega) (fun (h3 : z ≠ 0) => ?_) (fun (h3 : ¬ (z ≠ 0)) => ?_)
      · show wW (zK sc) zM117 49 [(0, .inr (.inr (.inl (some (22, 0))))), (1, .inl x), (3, .inl z), (4, .inl w)] [] _ _ _
        refine ww_go 1 (pc' := 50) (L' := [(0, .inr (.inr (.inl (some (22, 0))))), (1, .inl x), (3, .inl z), (4, .inl w)]) (st' := [.inl 0]) (m' := m) (o := none) rfl trivial ?_
        exact ww_rB rfl rfl (by omega) ⟨_, rfl, rfl, rfl, by omega⟩
      · show wW (zK sc) zM117 45 [(0, .inr (.inr (.inl (some (22, 0))))), (1, .inl x), (3, .inl z), (4, .inl w)] [] _ _ _
        refine ww_go 2 (pc' := 50) (L' := [(0, .inr (.inr (.inl (some (22, 0))))), (1, .inl x), (3, .inl z), (4, .inl w)]) (st' := [.inl 1]) (m' := m) (o := none) rfl trivial ?_
        exact ww_rB rfl rfl (by omega) ⟨_, rfl, rfl, rfl, by omega⟩
    · show wW (zK sc) zM117 14 [(0, .inr (.inr (.inl (some (22, 0))))), (1, .inl x), (3, .inl z), (4, .inl w)] [] _ _ _
      refine ww_go 4 (pc' := 19) (L' := [(0, .inr (.inr (.inl (some (22, 0))))), (1, .inl x), (3, .inl z), (4, .inl w)]) (st' := [.inl z, .inl x, .inl w, .inr (.inr (.inl (some (22, 0))))]) (m' := m) (o := none) rfl trivial ?_
      refine ww_call (vs := [.inr (.inr (.inl (some (22, 0)))), .inl w, .inl x, .inl z]) (r := []) (p := 0 < 1) rfl rfl rfl rfl (show 0 < 1 from by omega) (zs109 (c := c) (by omega) w x z hG (by omega)) ?_
      rintro _ _ _ ⟨r4, rfl, rfl, rfl, hr5⟩
      show wW (zK sc) zM117 22 [(0, .inr (.inr (.inl (some (22, 0))))), (1, .inl x), (3, .inl z), (4, .inl w)] [.inl r4] _ _ _
      refine ww_if (t := 35) rfl rfl (by omega) (fun (h6 : r4 = 0) => ?_) (fun (h6 : ¬ (r4 = 0)) => ?_)
      · show wW (zK sc) zM117 35 [(0, .inr (.inr (.inl (some (22, 0))))), (1, .inl x), (3, .inl z), (4, .inl w)] [] _ _ _
        refine ww_go 2 (pc' := 5) (L' := [(4, .inl (w + 1)), (0, .inr (.inr (.inl (some (22, 0))))), (1, .inl x), (3, .inl z)]) (st' := []) (m' := m) (o := none) rfl trivial ?_
        refine ww_sub (L := [(0, .inr (.inr (.inl (some (22, 0))))), (1, .inl x), (3, .inl z), (4, .inl (w + 1))]) ⟨rfl, rfl, rfl, rfl, trivial⟩ rfl rfl ?_
        exact (ih _ (by omega)) z (w + 1) rfl (by omega)
      · show wW (zK sc) zM117 25 [(0, .inr (.inr (.inl (some (22, 0))))), (1, .inl x), (3, .inl z), (4, .inl w)] [] _ _ _
        have b7 : (-2147483648) ≤ m.1 24 0 w.toNat ∧ m.1 24 0 w.toNat ≤ 2147483647 := hG.1 24 _ rfl _ _
        have t8 := wxor_rg z (m.1 24 0 w.toNat)
        have t9 : (0 ≤ z ∧ z ≤ 255 ∧ 0 ≤ m.1 24 0 w.toNat ∧ m.1 24 0 w.toNat ≤ 255) → (0 ≤ wxor z (m.1 24 0 w.toNat) ∧ wxor z (m.1 24 0 w.toNat) ≤ 255) := fun z => wxor_255 ⟨z.1, z.2.1⟩ z.2.2
        have t10 : (0 ≤ z ∧ z ≤ 65535 ∧ 0 ≤ m.1 24 0 w.toNat ∧ m.1 24 0 w.toNat ≤ 65535) → (0 ≤ wxor z (m.1 24 0 w.toNat) ∧ wxor z (m.1 24 0 w.toNat) ≤ 65535) := fun z => wxor_65535 ⟨z.1, z.2.1⟩ z.2.2
        have t11 : (0 ≤ z ∧ z ≤ 2147483647 ∧ 0 ≤ m.1 24 0 w.toNat ∧ m.1 24 0 w.toNat ≤ 2147483647) → (0 ≤ wxor z (m.1 24 0 w.toNat) ∧ wxor z (m.1 24 0 w.toNat) ≤ 2147483647) := fun z => wxor_2147483647 ⟨z.1, z.2.1⟩ z.2.2
        refine ww_go 9 (pc' := 5) (L' := [(4, .inl (w + 1)), (3, .inl (wxor z (m.1 24 0 w.toNat))), (0, .inr (.inr (.inl (some (22, 0))))), (1, .inl x)]) (st' := []) (m' := m) (o := some ((0 < 1) ∧ (0 < 1 ∧ 0 ≤ w ∧ w < ((24 : Nat) : Int)))) rfl (show (0 < 1) ∧ (0 < 1 ∧ 0 ≤ w ∧ w < ((24 : Nat) : Int)) from by omega) ?_
        refine ww_sub (L := [(0, .inr (.inr (.inl (some (22, 0))))), (1, .inl x), (3, .inl (wxor z (m.1 24 0 w.toNat))), (4, .inl (w + 1))]) ⟨rfl, rfl, rfl, rfl, trivial⟩ rfl rfl ?_
        exact (ih _ (by omega)) (wxor z (m.1 24 0 w.toNat)) (w + 1) rfl (by omega)
set_option maxRecDepth 8000 in
/-- Rows.tells -/
theorem zs117 {sc : xSc} {n : Nat × Nat} {m : wm} {c : Int} (hc : 0 ≤ c ∧ c ≤ 1000000) (x : Int) (y : Int) (hG : zB c m) (h0 : -2147483648 ≤ x ∧ x ≤ 2147483647 ∧ -2147483648 ≤ y ∧ y ≤ 2147483647) : wX (zK sc) 117 [.inr (.inr (.inl (some (22, 0)))), .inl x, .inl y] n m (wr (fun vv n1 m1 => ∃ r : Int, vv = some (.inl r) ∧ n = n1 ∧ m = m1 ∧ (0 ≤ r ∧ r ≤ 1))) := by
  refine wX_of (N := zM117) rfl (Nat.le_of_ble_eq_true rfl) ?_
  show wW (zK sc) zM117 0 [(0, .inr (.inr (.inl (some (22, 0))))), (1, .inl x), (2, .inl y)] [] n m _
  refine ww_go 4 (pc' := 5) (L' := [(4, .inl 0), (3, .inl y), (0, .inr (.inr (.inl (some (22, 0))))), (1, .inl x), (2, .inl y)]) (st' := []) (m' := m) (o := none) rfl trivial ?_
  refine ww_sub (L := [(0, .inr (.inr (.inl (some (22, 0))))), (1, .inl x), (3, .inl y), (4, .inl 0)]) ⟨rfl, rfl, rfl, rfl, trivial⟩ rfl rfl ?_
  exact (zs117_l5 hc x y hG h0 _) y 0 rfl (by omega)
set_option maxRecDepth 8000 in
theorem zs105_l79 {sc : xSc} {n : Nat × Nat} {m0 : wm} {c : Int} (hc : 0 ≤ c ∧ c ≤ 1000000) (x : Int) (y : Int) (v : Int64) (hG : zB c m0) (h0 : 0 ≤ x ∧ x ≤ 4000000 ∧ -2147483648 ≤ y ∧ y ≤ 2147483647) : ∀ (d : Nat), ∀ (z : Int) (g : Int64) (q : Int) (w : Int) (m : wm), (24 - w).toNat = d → zB c m → zfr (fun k i j => (k = 22) ∨ (k = 23) ∨ (k = 24) ∨ (k = 25)) m0 m → (0 ≤ w ∧ w ≤ 24 ∧ m.1 22 0 3 ≤ 23 ∧ -2147483648 ≤ z ∧ z ≤ 2147483647) →  wW (zK sc) zM105 79 [(0, .inr (.inr (.inl (some (22, 0))))), (1, .inl x), (5, .inl z), (6, .inr (.inl g)), (8, .inl q), (9, .inl w)] [] n m (wr (fun vv n1 m1 => vv = none ∧ n = n1 ∧ zB c m1 ∧ zfr (fun k i j => (k = 22) ∨ (k = 23) ∨ (k = 24) ∨ (k = 25)) m0 m1 ∧ True)) := by
  intro d
  induction d using Nat.strongRecOn with
  | ind d ih =>
    intro z g q w m hd hGm hFm hi
    have bu : 0 ≤ m.1 22 0 3 ∧ m.1 22 0 3 ≤ 24 := hGm.1 22 _ rfl _ _
    have b1 : 0 ≤ m.1 22 0 3 ∧ m.1 22 0 3 ≤ 24 := hGm.1 22 _ rfl _ _
    refine ww_go 3 (pc' := 85) (L' := [(0, .inr (.inr (.inl (some (22, 0))))), (1, .inl x), (5, .inl z), (6, .inr (.inl g)), (8, .inl q), (9, .inl w)]) (st' := [.inl (m.1 22 0 3), .inl w]) (m' := m) (o := some ((0 < 1))) rfl (show (0 < 1) from by omega) ?_
    refine ww_ic (t := 142) rfl rfl (by omega) (fun (h2 : m.1 22 0 3 ≤ w) => ?_) (fun (h2 : ¬ (m.1 22 0 3 ≤ w)) => ?_)
    · show wW (zK sc) zM105 142 [(0, .inr (.inr (.inl (some (22, 0))))), (1, .inl x), (5, .inl z), (6, .inr (.inl g)), (8, .inl q), (9, .inl w)] [] _ _ _
      have b3 : 0 ≤ m.1 22 0 3 ∧ m.1 22 0 3 ≤ 24 := hGm.1 22 _ rfl _ _
      refine ww_go 6 (pc' := 152) (L' := [(0, .inr (.inr (.inl (some (22, 0))))), (1, .inl x), (5, .inl z), (6, .inr (.inl g)), (8, .inl q), (9, .inl w)]) (st' := []) (m' := wuI m 23 0 ((m.1 22 0 3).toNat) x) (o := some ((0 < 1) ∧ (0 < 1) ∧ (0 < 1 ∧ 0 ≤ m.1 22 0 3 ∧ m.1 22 0 3 < ((24 : Nat) : Int)))) rfl (show (0 < 1) ∧ (0 < 1) ∧ (0 < 1 ∧ 0 ≤ m.1 22 0 3 ∧ m.1 22 0 3 < ((24 : Nat) : Int)) from by omega) ?_
      obtain ⟨m4, hm4⟩ : ∃ zq9 : wm, zq9 = wuI m 23 0 ((m.1 22 0 3).toNat) x := ⟨_, rfl⟩
      rw [← hm4]
      have hGm4 : zB c m4 := by rw [hm4]; exact zB_wI rfl (show 0 ≤ x ∧ x ≤ 4000000 from by omega) hGm
      have hFm4 : zfr (fun k i j => (k = 22) ∨ (k = 23) ∨ (k = 24) ∨ (k = 25)) m0 m4 := by rw [hm4]; exact zfr_wI hFm (show (23 = 22) ∨ (23 = 23) ∨ (23 = 24) ∨ (23 = 25) from Or.inr (Or.inl rfl))
      have s5 : m4.1 23 0 ((m.1 22 0 3).toNat) = x := by rw [hm4]; exact wuI_self
      have w6 : m4.1 22 0 3 = m.1 22 0 3 := by rw [hm4]; rfl
      have b7 : 0 ≤ m4.1 22 0 3 ∧ m4.1 22 0 3 ≤ 24 := hGm4.1 22 _ rfl _ _
      refine ww_go 6 (pc' := 163) (L' := [(0, .inr (.inr (.inl (some (22, 0))))), (1, .inl x), (5, .inl z), (6, .inr (.inl g)), (8, .inl q), (9, .inl w)]) (st' := []) (m' := wuI m4 24 0 ((m4.1 22 0 3).toNat) z) (o := some ((0 < 1) ∧ (0 < 1) ∧ (0 < 1 ∧ 0 ≤ m4.1 22 0 3 ∧ m4.1 22 0 3 < ((24 : Nat) : Int)))) rfl (show (0 < 1) ∧ (0 < 1) ∧ (0 < 1 ∧ 0 ≤ m4.1 22 0 3 ∧ m4.1 22 0 3 < ((24 : Nat) : Int)) from by omega) ?_
      obtain ⟨m8, hm8⟩ : ∃ zq9 : wm, zq9 = wuI m4 24 0 ((m4.1 22 0 3).toNat) z := ⟨_, rfl⟩
      rw [← hm8]
      have hGm8 : zB c m8 := by rw [hm8]; exact zB_wI rfl (show (-2147483648) ≤ z ∧ z ≤ 2147483647 from by omega) hGm4
      have hFm8 : zfr (fun k i j => (k = 22) ∨ (k = 23) ∨ (k = 24) ∨ (k = 25)) m0 m8 := by rw [hm8]; exact zfr_wI hFm4 (show (24 = 22) ∨ (24 = 23) ∨ (24 = 24) ∨ (24 = 25) from Or.inr (Or.inr (Or.inl rfl)))
      have s9 : m8.1 24 0 ((m4.1 22 0 3).toNat) = z := by rw [hm8]; exact wuI_self
      have w10 : m8.1 22 0 3 = m4.1 22 0 3 := by rw [hm8]; rfl
      have b11 : 0 ≤ m8.1 22 0 3 ∧ m8.1 22 0 3 ≤ 24 := hGm8.1 22 _ rfl _ _
      refine ww_go 6 (pc' := 174) (L' := [(0, .inr (.inr (.inl (some (22, 0))))), (1, .inl x), (5, .inl z), (6, .inr (.inl g)), (8, .inl q), (9, .inl w)]) (st' := []) (m' := wuL m8 25 0 ((m8.1 22 0 3).toNat) g) (o := some ((0 < 1) ∧ (0 < 1) ∧ (0 < 1 ∧ 0 ≤ m8.1 22 0 3 ∧ m8.1 22 0 3 < ((24 : Nat) : Int)))) rfl (show (0 < 1) ∧ (0 < 1) ∧ (0 < 1 ∧ 0 ≤ m8.1 22 0 3 ∧ m8.1 22 0 3 < ((24 : Nat) : Int)) from by omega) ?_
      obtain ⟨m12, hm12⟩ : ∃ zq9 : wm, zq9 = wuL m8 25 0 ((m8.1 22 0 3).toNat) g := ⟨_, rfl⟩
      rw [← hm12]
      have hGm12 : zB c m12 := by rw [hm12]; exact zB_wL hGm8
      have hFm12 : zfr (fun k i j => (k = 22) ∨ (k = 23) ∨ (k = 24) ∨ (k = 25)) m0 m12 := by rw [hm12]; exact zfr_wL hFm8 (show (25 = 22) ∨ (25 = 23) ∨ (25 = 24) ∨ (25 = 25) from Or.inr (Or.inr (Or.inr (rfl))))
      have w13 : m12.1 22 0 3 = m8.1 22 0 3 := by rw [hm12]; rfl
      have b14 : 0 ≤ m12.1 22 0 3 ∧ m12.1 22 0 3 ≤ 24 := hGm12.1 22 _ rfl _ _
      refine ww_go 6 (pc' := 184) (L' := [(0, .inr (.inr (.inl (some (22, 0))))), (1, .inl x), (5, .inl z), (6, .inr (.inl g)), (8, .inl q), (9, .inl w)]) (st' := []) (m' := wuI m12 22 0 3 ((m12.1 22 0 3) + 1)) (o := some ((0 < 1) ∧ (0 < 1))) rfl (show (0 < 1) ∧ (0 < 1) from by omega) ?_
      obtain ⟨m15, hm15⟩ : ∃ zq9 : wm, zq9 = wuI m12 22 0 3 ((m12.1 22 0 3) + 1) := ⟨_, rfl⟩
      rw [← hm15]
      have hGm15 : zB c m15 := by rw [hm15]; exact zB_wI rfl (show 0 ≤ (m12.1 22 0 3) + 1 ∧ (m12.1 22 0 3) + 1 ≤ 24 from by omega) hGm12
      have hFm15 : zfr (fun k i j => (k = 22) ∨ (k = 23) ∨ (k = 24) ∨ (k = 25)) m0 m15 := by rw [hm15]; exact zfr_wI hFm12 (show (22 = 22) ∨ (22 = 23) ∨ (22 = 24) ∨ (22 = 25) from Or.inl rfl)
      have s16 : m15.1 22 0 3 = (m12.1 22 0 3) + 1 := by rw [hm15]; exact wuI_self
      exact ww_rV rfl rfl ⟨rfl, rfl, zB_mono hGm15 (by omega), hFm15, by trivial⟩
    · show wW (zK sc) zM105 88 [(0, .inr (.inr (.inl (some (22, 0))))), (1, .inl x), (5, .inl z), (6, .inr (.inl g)), (8, .inl q), (9, .inl w)] [] _ _ _
      have b17 : 0 ≤ m.1 23 0 w.toNat ∧ m.1 23 0 w.toNat ≤ 4000000 := hGm.1 23 _ rfl _ _
      refine ww_go 5 (pc' := 96) (L' := [(0, .inr (.inr (.inl (some (22, 0))))), (1, .inl x), (5, .inl z), (6, .inr (.inl g)), (8, .inl q), (9, .inl w)]) (st' := [.inl x, .inl (m.1 23 0 w.toNat)]) (m' := m) (o := some ((0 < 1) ∧ (0 < 1 ∧ 0 ≤ w ∧ w < ((24 : Nat) : Int)))) rfl (show (0 < 1) ∧ (0 < 1 ∧ 0 ≤ w ∧ w < ((24 : Nat) : Int)) from by omega) ?_
      refine ww_ic (t := 136) rfl rfl (by omega) (fun (h18 : m.1 23 0 w.toNat ≠ x) => ?_) (fun (h18 : ¬ (m.1 23 0 w.toNat ≠ x)) => ?_)
      · show wW (zK sc) zM105 136 [(0, .inr (.inr (.inl (some (22, 0))))), (1, .inl x), (5, .inl z), (6, .inr (.inl g)), (8, .inl q), (9, .inl w)] [] _ _ _
        refine ww_go 2 (pc' := 79) (L' := [(9, .inl (w + 1)), (0, .inr (.inr (.inl (some (22, 0))))), (1, .inl x), (5, .inl z), (6, .inr (.inl g)), (8, .inl q)]) (st' := []) (m' := m) (o := none) rfl trivial ?_
        refine ww_sub (L := [(0, .inr (.inr (.inl (some (22, 0))))), (1, .inl x), (5, .inl z), (6, .inr (.inl g)), (8, .inl q), (9, .inl (w + 1))]) ⟨rfl, rfl, rfl, rfl, rfl, rfl, trivial⟩ rfl rfl ?_
        exact (ih _ (by omega)) z g q (w + 1) m rfl (zB_mono hGm (by omega)) hFm (by omega)
      · show wW (zK sc) zM105 99 [(0, .inr (.inr (.inl (some (22, 0))))), (1, .inl x), (5, .inl z), (6, .inr (.inl g)), (8, .inl q), (9, .inl w)] [] _ _ _
        have b19 : (-2147483648) ≤ m.1 24 0 w.toNat ∧ m.1 24 0 w.toNat ≤ 2147483647 := hGm.1 24 _ rfl _ _
        have t20 := wand_rg (m.1 24 0 w.toNat) q
        refine ww_go 6 (pc' := 109) (L' := [(0, .inr (.inr (.inl (some (22, 0))))), (1, .inl x), (5, .inl z), (6, .inr (.inl g)), (8, .inl q), (9, .inl w)]) (st' := [.inl (wand (m.1 24 0 w.toNat) q)]) (m' := m) (o := some ((0 < 1) ∧ (0 < 1 ∧ 0 ≤ w ∧ w < ((24 : Nat) : Int)))) rfl (show (0 < 1) ∧ (0 < 1 ∧ 0 ≤ w ∧ w < ((24 : Nat) : Int)) from by omega) ?_
        refine ww_if (t := 136) rfl rfl (by omega) (fun (h21 : wand (m.1 24 0 w.toNat) q = 0) => ?_) (fun (h21 : ¬ (wand (m.1 24 0 w.toNat) q = 0)) => ?_)
        · show wW (zK sc) zM105 136 [(0, .inr (.inr (.inl (some (22, 0))))), (1, .inl x), (5, .inl z), (6, .inr (.inl g)), (8, .inl q), (9, .inl w)] [] _ _ _
          refine ww_go 2 (pc' := 79) (L' := [(9, .inl (w + 1)), (0, .inr (.inr (.inl (some (22, 0))))), (1, .inl x), (5, .inl z), (6, .inr (.inl g)), (8, .inl q)]) (st' := []) (m' := m) (o := none) rfl trivial ?_
          refine ww_sub (L := [(0, .inr (.inr (.inl (some (22, 0))))), (1, .inl x), (5, .inl z), (6, .inr (.inl g)), (8, .inl q), (9, .inl (w + 1))]) ⟨rfl, rfl, rfl, rfl, rfl, rfl, trivial⟩ rfl rfl ?_
          exact (ih _ (by omega)) z g q (w + 1) m rfl (zB_mono hGm (by omega)) hFm (by omega)
        · show wW (zK sc) zM105 112 [(0, .inr (.inr (.inl (some (22, 0))))), (1, .inl x), (5, .inl z), (6, .inr (.inl g)), (8, .inl q), (9, .inl w)] [] _ _ _
          have b22 : (-2147483648) ≤ m.1 24 0 w.toNat ∧ m.1 24 0 w.toNat ≤ 2147483647 := hGm.1 24 _ rfl _ _
          have t23 := wxor_rg (m.1 24 0 w.toNat) z
          have t24 : (0 ≤ m.1 24 0 w.toNat ∧ m.1 24 0 w.toNat ≤ 255 ∧ 0 ≤ z ∧ z ≤ 255) → (0 ≤ wxor (m.1 24 0 w.toNat) z ∧ wxor (m.1 24 0 w.toNat) z ≤ 255) := fun z => wxor_255 ⟨z.1, z.2.1⟩ z.2.2
          have t25 : (0 ≤ m.1 24 0 w.toNat ∧ m.1 24 0 w.toNat ≤ 65535 ∧ 0 ≤ z ∧ z ≤ 65535) → (0 ≤ wxor (m.1 24 0 w.toNat) z ∧ wxor (m.1 24 0 w.toNat) z ≤ 65535) := fun z => wxor_65535 ⟨z.1, z.2.1⟩ z.2.2
          have t26 : (0 ≤ m.1 24 0 w.toNat ∧ m.1 24 0 w.toNat ≤ 2147483647 ∧ 0 ≤ z ∧ z ≤ 2147483647) → (0 ≤ wxor (m.1 24 0 w.toNat) z ∧ wxor (m.1 24 0 w.toNat) z ≤ 2147483647) := fun z => wxor_2147483647 ⟨z.1, z.2.1⟩ z.2.2
          refine ww_go 8 (pc' := 124) (L' := [(0, .inr (.inr (.inl (some (22, 0))))), (1, .inl x), (5, .inl z), (6, .inr (.inl g)), (8, .inl q), (9, .inl w)]) (st' := []) (m' := wuI m 24 0 w.toNat (wxor (m.1 24 0 w.toNat) z)) (o := some ((0 < 1) ∧ (0 < 1 ∧ 0 ≤ w ∧ w < ((24 : Nat) : Int)) ∧ (0 < 1 ∧ 0 ≤ w ∧ w < ((24 : Nat) : Int)))) rfl (show (0 < 1) ∧ (0 < 1 ∧ 0 ≤ w ∧ w < ((24 : Nat) : Int)) ∧ (0 < 1 ∧ 0 ≤ w ∧ w < ((24 : Nat) : Int)) from by omega) ?_
          obtain ⟨m27, hm27⟩ : ∃ zq9 : wm, zq9 = wuI m 24 0 w.toNat (wxor (m.1 24 0 w.toNat) z) := ⟨_, rfl⟩
          rw [← hm27]
          have hGm27 : zB c m27 := by rw [hm27]; exact zB_wI rfl (show (-2147483648) ≤ wxor (m.1 24 0 w.toNat) z ∧ wxor (m.1 24 0 w.toNat) z ≤ 2147483647 from by omega) hGm
          have hFm27 : zfr (fun k i j => (k = 22) ∨ (k = 23) ∨ (k = 24) ∨ (k = 25)) m0 m27 := by rw [hm27]; exact zfr_wI hFm (show (24 = 22) ∨ (24 = 23) ∨ (24 = 24) ∨ (24 = 25) from Or.inr (Or.inr (Or.inl rfl)))
          have s28 : m27.1 24 0 w.toNat = wxor (m.1 24 0 w.toNat) z := by rw [hm27]; exact wuI_self
          have w29 : m27.1 22 0 3 = m.1 22 0 3 := by rw [hm27]; rfl
          refine ww_go 8 (pc' := 136) (L' := [(0, .inr (.inr (.inl (some (22, 0))))), (1, .inl x), (5, .inl z), (6, .inr (.inl g)), (8, .inl q), (9, .inl w)]) (st' := []) (m' := wuL m27 25 0 w.toNat ((m27.2.1 25 0 w.toNat) ^^^ g)) (o := some ((0 < 1) ∧ (0 < 1 ∧ 0 ≤ w ∧ w < ((24 : Nat) : Int)) ∧ (0 < 1 ∧ 0 ≤ w ∧ w < ((24 : Nat) : Int)))) rfl (show (0 < 1) ∧ (0 < 1 ∧ 0 ≤ w ∧ w < ((24 : Nat) : Int)) ∧ (0 < 1 ∧ 0 ≤ w ∧ w < ((24 : Nat) : Int)) from by omega) ?_
          obtain ⟨m30, hm30⟩ : ∃ zq9 : wm, zq9 = wuL m27 25 0 w.toNat ((m27.2.1 25 0 w.toNat) ^^^ g) := ⟨_, rfl⟩
          rw [← hm30]
          have hGm30 : zB c m30 := by rw [hm30]; exact zB_wL hGm27
          have hFm30 : zfr (fun k i j => (k = 22) ∨ (k = 23) ∨ (k = 24) ∨ (k = 25)) m0 m30 := by rw [hm30]; exact zfr_wL hFm27 (show (25 = 22) ∨ (25 = 23) ∨ (25 = 24) ∨ (25 = 25) from Or.inr (Or.inr (Or.inr (rfl))))
          have w31 : m30.1 22 0 3 = m27.1 22 0 3 := by rw [hm30]; rfl
          refine ww_go 2 (pc' := 79) (L' := [(9, .inl (w + 1)), (0, .inr (.inr (.inl (some (22, 0))))), (1, .inl x), (5, .inl z), (6, .inr (.inl g)), (8, .inl q)]) (st' := []) (m' := m30) (o := none) rfl trivial ?_
          refine ww_sub (L := [(0, .inr (.inr (.inl (some (22, 0))))), (1, .inl x), (5, .inl z), (6, .inr (.inl g)), (8, .inl q), (9, .inl (w + 1))]) ⟨rfl, rfl, rfl, rfl, rfl, rfl, trivial⟩ rfl rfl ?_
          exact (ih _ (by omega)) z g q (w + 1) m30 rfl (zB_mono hGm30 (by omega)) hFm30 (by omega)
set_option maxRecDepth 8000 in
theorem zs105_l17 {sc : xSc} {n : Nat × Nat} {m0 : wm} {c : Int} (hc : 0 ≤ c ∧ c ≤ 1000000) (x : Int) (y : Int) (v : Int64) (hG : zB c m0) (h0 : 0 ≤ x ∧ x ≤ 4000000 ∧ -2147483648 ≤ y ∧ y ≤ 2147483647) : ∀ (d : Nat), ∀ (z : Int) (g : Int64) (w : Int) (m : wm), (24 - w).toNat = d → zB c m → zfr (fun k i j => (k = 22) ∨ (k = 23) ∨ (k = 24) ∨ (k = 25)) m0 m → (0 ≤ w ∧ w ≤ 24 ∧ m.1 22 0 3 ≤ 23 ∧ -2147483648 ≤ z ∧ z ≤ 2147483647) →  wW (zK sc) zM105 17 [(0, .inr (.inr (.inl (some (22, 0))))), (1, .inl x), (5, .inl z), (6, .inr (.inl g)), (8, .inl w)] [] n m (wr (fun vv n1 m1 => vv = none ∧ n = n1 ∧ zB c m1 ∧ zfr (fun k i j => (k = 22) ∨ (k = 23) ∨ (k = 24) ∨ (k = 25)) m0 m1 ∧ True)) := by
  intro d
  induction d using Nat.strongRecOn with
  | ind d ih =>
    intro z g w m hd hGm hFm hi
    have bu : 0 ≤ m.1 22 0 3 ∧ m.1 22 0 3 ≤ 24 := hGm.1 22 _ rfl _ _
    have b1 : 0 ≤ m.1 22 0 3 ∧ m.1 22 0 3 ≤ 24 := hGm.1 22 _ rfl _ _
    refine ww_go 3 (pc' := 23) (L' := [(0, .inr (.inr (.inl (some (22, 0))))), (1, .inl x), (5, .inl z), (6, .inr (.inl g)), (8, .inl w)]) (st' := [.inl (m.1 22 0 3), .inl w]) (m' := m) (o := some ((0 < 1))) rfl (show (0 < 1) from by omega) ?_
    refine ww_ic (t := 68) rfl rfl (by omega) (fun (h2 : m.1 22 0 3 ≤ w) => ?_) (fun (h2 : ¬ (m.1 22 0 3 ≤ w)) => ?_)
    · show wW (zK sc) zM105 68 [(0, .inr (.inr (.inl (some (22, 0))))), (1, .inl x), (5, .inl z), (6, .inr (.inl g)), (8, .inl w)] [] _ _ _
      have t3 := wand_rg z (-z)
      refine ww_go 7 (pc' := 79) (L' := [(9, .inl 0), (8, .inl (wand z (-z))), (0, .inr (.inr (.inl (some (22, 0))))), (1, .inl x), (5, .inl z), (6, .inr (.inl g))]) (st' := []) (m' := m) (o := none) rfl trivial ?_
      refine ww_sub (L := [(0, .inr (.inr (.inl (some (22, 0))))), (1, .inl x), (5, .inl z), (6, .inr (.inl g)), (8, .inl (wand z (-z))), (9, .inl 0)]) ⟨rfl, rfl, rfl, rfl, rfl, rfl, trivial⟩ rfl rfl ?_
      exact (zs105_l79 hc x y v hG h0 _) z g (wand z (-z)) 0 m rfl (zB_mono hGm (by omega)) hFm (by omega)
    · show wW (zK sc) zM105 26 [(0, .inr (.inr (.inl (some (22, 0))))), (1, .inl x), (5, .inl z), (6, .inr (.inl g)), (8, .inl w)] [] _ _ _
      refine ww_go 4 (pc' := 32) (L' := [(0, .inr (.inr (.inl (some (22, 0))))), (1, .inl x), (5, .inl z), (6, .inr (.inl g)), (8, .inl w)]) (st' := [.inl z, .inl x, .inl w, .inr (.inr (.inl (some (22, 0))))]) (m' := m) (o := none) rfl trivial ?_
      refine ww_call (vs := [.inr (.inr (.inl (some (22, 0)))), .inl w, .inl x, .inl z]) (r := []) (p := 0 < 1) rfl rfl rfl rfl (show 0 < 1 from by omega) (zs109 (c := c) (by omega) w x z hGm (by omega)) ?_
      rintro _ _ _ ⟨r4, rfl, rfl, rfl, hr5⟩
      show wW (zK sc) zM105 35 [(0, .inr (.inr (.inl (some (22, 0))))), (1, .inl x), (5, .inl z), (6, .inr (.inl g)), (8, .inl w)] [.inl r4] _ _ _
      refine ww_if (t := 62) rfl rfl (by omega) (fun (h6 : r4 = 0) => ?_) (fun (h6 : ¬ (r4 = 0)) => ?_)
      · show wW (zK sc) zM105 62 [(0, .inr (.inr (.inl (some (22, 0))))), (1, .inl x), (5, .inl z), (6, .inr (.inl g)), (8, .inl w)] [] _ _ _
        refine ww_go 2 (pc' := 17) (L' := [(8, .inl (w + 1)), (0, .inr (.inr (.inl (some (22, 0))))), (1, .inl x), (5, .inl z), (6, .inr (.inl g))]) (st' := []) (m' := m) (o := none) rfl trivial ?_
        refine ww_sub (L := [(0, .inr (.inr (.inl (some (22, 0))))), (1, .inl x), (5, .inl z), (6, .inr (.inl g)), (8, .inl (w + 1))]) ⟨rfl, rfl, rfl, rfl, rfl, trivial⟩ rfl rfl ?_
        exact (ih _ (by omega)) z g (w + 1) m rfl (zB_mono hGm (by omega)) hFm (by omega)
      · show wW (zK sc) zM105 38 [(0, .inr (.inr (.inl (some (22, 0))))), (1, .inl x), (5, .inl z), (6, .inr (.inl g)), (8, .inl w)] [] _ _ _
        have b7 : (-2147483648) ≤ m.1 24 0 w.toNat ∧ m.1 24 0 w.toNat ≤ 2147483647 := hGm.1 24 _ rfl _ _
        have t8 := wxor_rg z (m.1 24 0 w.toNat)
        have t9 : (0 ≤ z ∧ z ≤ 255 ∧ 0 ≤ m.1 24 0 w.toNat ∧ m.1 24 0 w.toNat ≤ 255) → (0 ≤ wxor z (m.1 24 0 w.toNat) ∧ wxor z (m.1 24 0 w.toNat) ≤ 255) := fun z => wxor_255 ⟨z.1, z.2.1⟩ z.2.2
        have t10 : (0 ≤ z ∧ z ≤ 65535 ∧ 0 ≤ m.1 24 0 w.toNat ∧ m.1 24 0 w.toNat ≤ 65535) → (0 ≤ wxor z (m.1 24 0 w.toNat) ∧ wxor z (m.1 24 0 w.toNat) ≤ 65535) := fun z => wxor_65535 ⟨z.1, z.2.1⟩ z.2.2
        have t11 : (0 ≤ z ∧ z ≤ 2147483647 ∧ 0 ≤ m.1 24 0 w.toNat ∧ m.1 24 0 w.toNat ≤ 2147483647) → (0 ≤ wxor z (m.1 24 0 w.toNat) ∧ wxor z (m.1 24 0 w.toNat) ≤ 2147483647) := fun z => wxor_2147483647 ⟨z.1, z.2.1⟩ z.2.2
        refine ww_go 16 (pc' := 17) (L' := [(8, .inl (w + 1)), (6, .inr (.inl (g ^^^ (m.2.1 25 0 w.toNat)))), (5, .inl (wxor z (m.1 24 0 w.toNat))), (0, .inr (.inr (.inl (some (22, 0))))), (1, .inl x)]) (st' := []) (m' := m) (o := some ((0 < 1) ∧ (0 < 1 ∧ 0 ≤ w ∧ w < ((24 : Nat) : Int)) ∧ (0 < 1) ∧ (0 < 1 ∧ 0 ≤ w ∧ w < ((24 : Nat) : Int)))) rfl (show (0 < 1) ∧ (0 < 1 ∧ 0 ≤ w ∧ w < ((24 : Nat) : Int)) ∧ (0 < 1) ∧ (0 < 1 ∧ 0 ≤ w ∧ w < ((24 : Nat) : Int)) from by omega) ?_
        refine ww_sub (L := [(0, .inr (.inr (.inl (some (22, 0))))), (1, .inl x), (5, .inl (wxor z (m.1 24 0 w.toNat))), (6, .inr (.inl (g ^^^ (m.2.1 25 0 w.toNat)))), (8, .inl (w + 1))]) ⟨rfl, rfl, rfl, rfl, rfl, trivial⟩ rfl rfl ?_
        exact (ih _ (by omega)) (wxor z (m.1 24 0 w.toNat)) (g ^^^ (m.2.1 25 0 w.toNat)) (w + 1) m rfl (zB_mono hGm (by omega)) hFm (by omega)
set_option maxRecDepth 8000 in
/-- Rows.add -/
theorem zs105 {sc : xSc} {n : Nat × Nat} {m0 : wm} {c : Int} (hc : 0 ≤ c ∧ c ≤ 1000000) (x : Int) (y : Int) (v : Int64) (hG : zB c m0) (h0 : 0 ≤ x ∧ x ≤ 4000000 ∧ -2147483648 ≤ y ∧ y ≤ 2147483647) : wX (zK sc) 105 [.inr (.inr (.inl (some (22, 0)))), .inl x, .inl y, .inr (.inl v)] n m0 (wr (fun vv n1 m1 => vv = none ∧ n = n1 ∧ zB c m1 ∧ zfr (fun k i j => (k = 22) ∨ (k = 23) ∨ (k = 24) ∨ (k = 25)) m0 m1 ∧ True)) := by
  refine wX_of (N := zM105) rfl (Nat.le_of_ble_eq_true rfl) ?_
  show wW (zK sc) zM105 0 [(0, .inr (.inr (.inl (some (22, 0))))), (1, .inl x), (2, .inl y), (3, .inr (.inl v))] [] n m0 _
  have hF : zfr (fun k i j => (k = 22) ∨ (k = 23) ∨ (k = 24) ∨ (k = 25)) m0 m0 := zfr_rf
  refine ww_go 1 (pc' := 1) (L' := [(0, .inr (.inr (.inl (some (22, 0))))), (1, .inl x), (2, .inl y), (3, .inr (.inl v))]) (st' := [.inr (.inr (.inl (some (22, 0))))]) (m' := m0) (o := none) rfl trivial ?_
  refine ww_call (vs := [.inr (.inr (.inl (some (22, 0))))]) (r := []) (p := 0 < 1) rfl rfl rfl rfl (show 0 < 1 from by omega) (zs110 (c := c) (by omega) hG) ?_
  rintro _ _ _ ⟨r1, rfl, rfl, rfl, hr2⟩
  show wW (zK sc) zM105 4 [(0, .inr (.inr (.inl (some (22, 0))))), (1, .inl x), (2, .inl y), (3, .inr (.inl v))] [.inl r1] _ _ _
  refine ww_if (t := 8) rfl rfl (by omega) (fun (h3 : r1 = 0) => ?_) (fun (h3 : ¬ (r1 = 0)) => ?_)
  · show wW (zK sc) zM105 8 [(0, .inr (.inr (.inl (some (22, 0))))), (1, .inl x), (2, .inl y), (3, .inr (.inl v))] [] _ _ _
    refine ww_go 6 (pc' := 17) (L' := [(8, .inl 0), (6, .inr (.inl v)), (5, .inl y), (0, .inr (.inr (.inl (some (22, 0))))), (1, .inl x), (2, .inl y), (3, .inr (.inl v))]) (st' := []) (m' := m0) (o := none) rfl trivial ?_
    refine ww_sub (L := [(0, .inr (.inr (.inl (some (22, 0))))), (1, .inl x), (5, .inl y), (6, .inr (.inl v)), (8, .inl 0)]) ⟨rfl, rfl, rfl, rfl, rfl, trivial⟩ rfl rfl ?_
    exact (zs105_l17 hc x y v hG h0 _) y v 0 m0 rfl (zB_mono hG (by omega)) hF (by omega)
  · show wW (zK sc) zM105 7 [(0, .inr (.inr (.inl (some (22, 0))))), (1, .inl x), (2, .inl y), (3, .inr (.inl v))] [] _ _ _
    exact ww_rV rfl rfl ⟨rfl, rfl, zB_mono hG (by omega), hF, by trivial⟩
set_option maxRecDepth 8000 in
theorem zs115_l2 {sc : xSc} {n : Nat × Nat} {m : wm} {c : Int} (hc : 0 ≤ c ∧ c ≤ 1000000) (x : Int) (y : Int) (hG : zB c m) (h0 : -2147483648 ≤ x ∧ x ≤ 2147483647 ∧ -2147483648 ≤ y ∧ y ≤ 2147483647) : ∀ (d : Nat), ∀ (w : Int), (24 - w).toNat = d → (0 ≤ w ∧ w ≤ 24) →  wW (zK sc) zM115 2 [(0, .inr (.inr (.inl (some (22, 0))))), (1, .inl x), (2, .inl y), (3, .inl w)] [] n m (wr (fun vv n1 m1 => ∃ r : Int64, vv = some (.inr (.inl r)) ∧ n = n1 ∧ m = m1 ∧ True)) := by
  intro d
  induction d using Nat.strongRecOn with
  | ind d ih =>
    intro w hd hi
    have b1 : 0 ≤ m.1 22 0 3 ∧ m.1 22 0 3 ≤ 24 := hG.1 22 _ rfl _ _
    refine ww_go 3 (pc' := 7) (L' := [(0, .inr (.inr (.inl (some (22, 0))))), (1, .inl x), (2, .inl y), (3, .inl w)]) (st' := [.inl (m.1 22 0 3), .inl w]) (m' := m) (o := some ((0 < 1))) rfl (show (0 < 1) from by omega) ?_
    refine ww_ic (t := 45) rfl rfl (by omega) (fun (h2 : m.1 22 0 3 ≤ w) => ?_) (fun (h2 : ¬ (m.1 22 0 3 ≤ w)) => ?_)
    · show wW (zK sc) zM115 45 [(0, .inr (.inr (.inl (some (22, 0))))), (1, .inl x), (2, .inl y), (3, .inl w)] [] _ _ _
      refine ww_go 1 (pc' := 46) (L' := [(0, .inr (.inr (.inl (some (22, 0))))), (1, .inl x), (2, .inl y), (3, .inl w)]) (st' := [.inr (.inl (Int64.ofNat 0))]) (m' := m) (o := none) rfl trivial ?_
      exact ww_rL rfl rfl ⟨_, rfl, rfl, rfl, by trivial⟩
    · show wW (zK sc) zM115 10 [(0, .inr (.inr (.inl (some (22, 0))))), (1, .inl x), (2, .inl y), (3, .inl w)] [] _ _ _
      have b3 : 0 ≤ m.1 23 0 w.toNat ∧ m.1 23 0 w.toNat ≤ 4000000 := hG.1 23 _ rfl _ _
      refine ww_go 5 (pc' := 17) (L' := [(0, .inr (.inr (.inl (some (22, 0))))), (1, .inl x), (2, .inl y), (3, .inl w)]) (st' := [.inl x, .inl (m.1 23 0 w.toNat)]) (m' := m) (o := some ((0 < 1) ∧ (0 < 1 ∧ 0 ≤ w ∧ w < ((24 : Nat) : Int)))) rfl (show (0 < 1) ∧ (0 < 1 ∧ 0 ≤ w ∧ w < ((24 : Nat) : Int)) from by omega) ?_
      refine ww_ic (t := 39) rfl rfl (by omega) (fun (h4 : m.1 23 0 w.toNat ≠ x) => ?_) (fun (h4 : ¬ (m.1 23 0 w.toNat ≠ x)) => ?_)
      · show wW (zK sc) zM115 39 [(0, .inr (.inr (.inl (some (22, 0))))), (1, .inl x), (2, .inl y), (3, .inl w)] [] _ _ _
        refine ww_go 2 (pc' := 2) (L' := [(3, .inl (w + 1)), (0, .inr (.inr (.inl (some (22, 0))))), (1, .inl x), (2, .inl y)]) (st' := []) (m' := m) (o := none) rfl trivial ?_
        refine ww_sub (L := [(0, .inr (.inr (.inl (some (22, 0))))), (1, .inl x), (2, .inl y), (3, .inl (w + 1))]) ⟨rfl, rfl, rfl, rfl, trivial⟩ rfl rfl ?_
        exact (ih _ (by omega)) (w + 1) rfl (by omega)
      · show wW (zK sc) zM115 20 [(0, .inr (.inr (.inl (some (22, 0))))), (1, .inl x), (2, .inl y), (3, .inl w)] [] _ _ _
        have b5 : (-2147483648) ≤ m.1 24 0 w.toNat ∧ m.1 24 0 w.toNat ≤ 2147483647 := hG.1 24 _ rfl _ _
        have t6 := wshl_rg 1 y
        have t7 : 0 ≤ y ∧ y ≤ 30 → 1 ≤ wshl 1 y := wshl1_rg
        refine ww_go 7 (pc' := 29) (L' := [(0, .inr (.inr (.inl (some (22, 0))))), (1, .inl x), (2, .inl y), (3, .inl w)]) (st' := [.inl (wshl 1 y), .inl (m.1 24 0 w.toNat)]) (m' := m) (o := some ((0 < 1) ∧ (0 < 1 ∧ 0 ≤ w ∧ w < ((24 : Nat) : Int)))) rfl (show (0 < 1) ∧ (0 < 1 ∧ 0 ≤ w ∧ w < ((24 : Nat) : Int)) from by omega) ?_
        refine ww_ic (t := 39) rfl rfl (by omega) (fun (h8 : m.1 24 0 w.toNat ≠ wshl 1 y) => ?_) (fun (h8 : ¬ (m.1 24 0 w.toNat ≠ wshl 1 y)) => ?_)
        · show wW (zK sc) zM115 39 [(0, .inr (.inr (.inl (some (22, 0))))), (1, .inl x), (2, .inl y), (3, .inl w)] [] _ _ _
          refine ww_go 2 (pc' := 2) (L' := [(3, .inl (w + 1)), (0, .inr (.inr (.inl (some (22, 0))))), (1, .inl x), (2, .inl y)]) (st' := []) (m' := m) (o := none) rfl trivial ?_
          refine ww_sub (L := [(0, .inr (.inr (.inl (some (22, 0))))), (1, .inl x), (2, .inl y), (3, .inl (w + 1))]) ⟨rfl, rfl, rfl, rfl, trivial⟩ rfl rfl ?_
          exact (ih _ (by omega)) (w + 1) rfl (by omega)
        · show wW (zK sc) zM115 32 [(0, .inr (.inr (.inl (some (22, 0))))), (1, .inl x), (2, .inl y), (3, .inl w)] [] _ _ _
          refine ww_go 4 (pc' := 38) (L' := [(0, .inr (.inr (.inl (some (22, 0))))), (1, .inl x), (2, .inl y), (3, .inl w)]) (st' := [.inr (.inl (m.2.1 25 0 w.toNat))]) (m' := m) (o := some ((0 < 1) ∧ (0 < 1 ∧ 0 ≤ w ∧ w < ((24 : Nat) : Int)))) rfl (show (0 < 1) ∧ (0 < 1 ∧ 0 ≤ w ∧ w < ((24 : Nat) : Int)) from by omega) ?_
          exact ww_rL rfl rfl ⟨_, rfl, rfl, rfl, by trivial⟩
set_option maxRecDepth 8000 in
/-- Rows.piece -/
theorem zs115 {sc : xSc} {n : Nat × Nat} {m : wm} {c : Int} (hc : 0 ≤ c ∧ c ≤ 1000000) (x : Int) (y : Int) (hG : zB c m) (h0 : -2147483648 ≤ x ∧ x ≤ 2147483647 ∧ -2147483648 ≤ y ∧ y ≤ 2147483647) : wX (zK sc) 115 [.inr (.inr (.inl (some (22, 0)))), .inl x, .inl y] n m (wr (fun vv n1 m1 => ∃ r : Int64, vv = some (.inr (.inl r)) ∧ n = n1 ∧ m = m1 ∧ True)) := by
  refine wX_of (N := zM115) rfl (Nat.le_of_ble_eq_true rfl) ?_
  show wW (zK sc) zM115 0 [(0, .inr (.inr (.inl (some (22, 0))))), (1, .inl x), (2, .inl y)] [] n m _
  refine ww_go 2 (pc' := 2) (L' := [(3, .inl 0), (0, .inr (.inr (.inl (some (22, 0))))), (1, .inl x), (2, .inl y)]) (st' := []) (m' := m) (o := none) rfl trivial ?_
  refine ww_sub (L := [(0, .inr (.inr (.inl (some (22, 0))))), (1, .inl x), (2, .inl y), (3, .inl 0)]) ⟨rfl, rfl, rfl, rfl, trivial⟩ rfl rfl ?_
  exact (zs115_l2 hc x y hG h0 _) 0 rfl (by omega)
