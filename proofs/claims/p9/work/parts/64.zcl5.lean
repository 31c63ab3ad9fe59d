set_option maxRecDepth 8000 in
/-- Rules.greatestValue -/
theorem zs121 {sc : xSc} {n : Nat × Nat} {m : wm} (x : Int) (h0 : -2147483648 ≤ x ∧ x ≤ 2147483647) : wX (zK sc) 121 [.inl x] n m (wr (fun vv n1 m1 => ∃ r : Int, vv = some (.inl r) ∧ n = n1 ∧ m = m1 ∧ ((x = 0 ∧ r = 96) ∨ (x = 1 ∧ r = 6) ∨ ((x = 2 ∨ x = 3) ∧ r = 255) ∨ ((x < 0 ∨ 3 < x) ∧ r = -1)))) := by
  refine wX_of (N := zM121) rfl (Nat.le_of_ble_eq_true rfl) ?_
  show wW (zK sc) zM121 0 [(0, .inl x)] [] n m _
  refine ww_go 1 (pc' := 1) (L' := [(0, .inl x)]) (st' := [.inl x]) (m' := m) (o := none) rfl trivial ?_
  refine ww_tab rfl (by omega) (td := 42) rfl (fun (h1 : x < 0 ∨ 3 < x) => ?_) (fun h1a h1b => ?_)
  · show wW (zK sc) zM121 42 [(0, .inl x)] [] _ _ _
    refine ww_go 1 (pc' := 43) (L' := [(0, .inl x)]) (st' := [.inl ((-1))]) (m' := m) (o := none) rfl trivial ?_
    exact ww_rI rfl rfl ⟨_, rfl, rfl, rfl, by omega⟩
  · rcases (show x = 0 ∨ x = 1 ∨ x = 2 ∨ x = 3 from by omega) with h1 | h1 | h1 | h1
    · refine ⟨31, 32, by rw [h1]; rfl, rfl, ?_⟩
      show wW (zK sc) zM121 32 [(0, .inl x)] [] _ _ _
      refine ww_go 1 (pc' := 34) (L' := [(0, .inl x)]) (st' := [.inl 96]) (m' := m) (o := none) rfl trivial ?_
      exact ww_rI rfl rfl ⟨_, rfl, rfl, rfl, by omega⟩
    · refine ⟨34, 35, by rw [h1]; rfl, rfl, ?_⟩
      show wW (zK sc) zM121 35 [(0, .inl x)] [] _ _ _
      refine ww_go 1 (pc' := 37) (L' := [(0, .inl x)]) (st' := [.inl 6]) (m' := m) (o := none) rfl trivial ?_
      exact ww_rI rfl rfl ⟨_, rfl, rfl, rfl, by omega⟩
    · refine ⟨37, 38, by rw [h1]; rfl, rfl, ?_⟩
      show wW (zK sc) zM121 38 [(0, .inl x)] [] _ _ _
      refine ww_go 1 (pc' := 41) (L' := [(0, .inl x)]) (st' := [.inl 255]) (m' := m) (o := none) rfl trivial ?_
      exact ww_rI rfl rfl ⟨_, rfl, rfl, rfl, by omega⟩
    · refine ⟨37, 38, by rw [h1]; rfl, rfl, ?_⟩
      show wW (zK sc) zM121 38 [(0, .inl x)] [] _ _ _
      refine ww_go 1 (pc' := 41) (L' := [(0, .inl x)]) (st' := [.inl 255]) (m' := m) (o := none) rfl trivial ?_
      exact ww_rI rfl rfl ⟨_, rfl, rfl, rfl, by omega⟩
set_option maxRecDepth 8000 in
/-- Rules.set -/
theorem zs124 {sc : xSc} {n : Nat × Nat} {m0 : wm} {c : Int} (hc : 0 ≤ c ∧ c ≤ 1000000) (x : Int) (y : Int) (b : Int) (hG : zB c m0) (h0 : 0 ≤ x ∧ x ≤ 3 ∧ 0 ≤ y ∧ y ≤ 255 ∧ (x = 0 → y ≤ 96) ∧ (x = 1 → y ≤ 6) ∧ 0 ≤ b ∧ b ≤ 1) : wX (zK sc) 124 [.inr (.inr (.inl (some (13, 0)))), .inl x, .inl y, .inl b] n m0 (wr (fun vv n1 m1 => vv = none ∧ n = n1 ∧ zB c m1 ∧ zfr (fun k i j => (k = 13) ∨ (k = 14) ∨ (k = 15)) m0 m1 ∧ True)) := by
  refine wX_of (N := zM124) rfl (Nat.le_of_ble_eq_true rfl) ?_
  show wW (zK sc) zM124 0 [(0, .inr (.inr (.inl (some (13, 0))))), (1, .inl x), (2, .inl y), (3, .inl b)] [] n m0 _
  have hF : zfr (fun k i j => (k = 13) ∨ (k = 14) ∨ (k = 15)) m0 m0 := zfr_rf
  refine ww_go 1 (pc' := 1) (L' := [(0, .inr (.inr (.inl (some (13, 0))))), (1, .inl x), (2, .inl y), (3, .inl b)]) (st' := [.inl x]) (m' := m0) (o := none) rfl trivial ?_
  refine ww_tab rfl (by omega) (td := 76) rfl (fun (h1 : x < 0 ∨ 2 < x) => ?_) (fun h1a h1b => ?_)
  · show wW (zK sc) zM124 76 [(0, .inr (.inr (.inl (some (13, 0))))), (1, .inl x), (2, .inl y), (3, .inl b)] [] _ _ _
    have t2 := wand_rg y 255
    have t3 := wand_m255 y
    refine ww_go 7 (pc' := 87) (L' := [(0, .inr (.inr (.inl (some (13, 0))))), (1, .inl x), (2, .inl y), (3, .inl b)]) (st' := []) (m' := wuI m0 15 0 ((wand y 255).toNat) b) (o := some ((0 < 1) ∧ (0 < 1 ∧ 0 ≤ wand y 255 ∧ wand y 255 < ((256 : Nat) : Int) ∧ 0 ≤ b ∧ b ≤ 1))) rfl (show (0 < 1) ∧ (0 < 1 ∧ 0 ≤ wand y 255 ∧ wand y 255 < ((256 : Nat) : Int) ∧ 0 ≤ b ∧ b ≤ 1) from by omega) ?_
    obtain ⟨m4, hm4⟩ : ∃ zq9 : wm, zq9 = wuI m0 15 0 ((wand y 255).toNat) b := ⟨_, rfl⟩
    rw [← hm4]
    have hGm4 : zB c m4 := by rw [hm4]; exact zB_wI rfl (show 0 ≤ b ∧ b ≤ 1 from by omega) hG
    have hFm4 : zfr (fun k i j => (k = 13) ∨ (k = 14) ∨ (k = 15)) m0 m4 := by rw [hm4]; exact zfr_wI hF (show (15 = 13) ∨ (15 = 14) ∨ (15 = 15) from Or.inr (Or.inr (rfl)))
    have s5 : m4.1 15 0 ((wand y 255).toNat) = b := by rw [hm4]; exact wuI_self
    exact ww_rV rfl rfl ⟨rfl, rfl, zB_mono hGm4 (by omega), hFm4, by trivial⟩
  · rcases (show x = 0 ∨ x = 1 ∨ x = 2 from by omega) with h1 | h1 | h1
    · refine ⟨27, 28, by rw [h1]; rfl, rfl, ?_⟩
      show wW (zK sc) zM124 28 [(0, .inr (.inr (.inl (some (13, 0))))), (1, .inl x), (2, .inl y), (3, .inl b)] [] _ _ _
      refine ww_go 2 (pc' := 30) (L' := [(0, .inr (.inr (.inl (some (13, 0))))), (1, .inl x), (2, .inl y), (3, .inl b)]) (st' := [.inl b, .inr (.inr (.inl (some (13, 0))))]) (m' := m0) (o := none) rfl trivial ?_
      refine ww_if (t := 37) rfl rfl (by omega) (fun (h6 : b = 0) => ?_) (fun (h6 : ¬ (b = 0)) => ?_)
      · show wW (zK sc) zM124 37 [(0, .inr (.inr (.inl (some (13, 0))))), (1, .inl x), (2, .inl y), (3, .inl b)] [.inr (.inr (.inl (some (13, 0))))] _ _ _
        refine ww_go 2 (pc' := 42) (L' := [(0, .inr (.inr (.inl (some (13, 0))))), (1, .inl x), (2, .inl y), (3, .inl b)]) (st' := []) (m' := wuI m0 13 0 2 96) (o := some ((0 < 1))) rfl (show (0 < 1) from by omega) ?_
        obtain ⟨m7, hm7⟩ : ∃ zq9 : wm, zq9 = wuI m0 13 0 2 96 := ⟨_, rfl⟩
        rw [← hm7]
        have hGm7 : zB c m7 := by rw [hm7]; exact zB_wI rfl (show 0 ≤ (96 : Int) ∧ (96 : Int) ≤ 96 from by omega) hG
        have hFm7 : zfr (fun k i j => (k = 13) ∨ (k = 14) ∨ (k = 15)) m0 m7 := by rw [hm7]; exact zfr_wI hF (show (13 = 13) ∨ (13 = 14) ∨ (13 = 15) from Or.inl rfl)
        have s8 : m7.1 13 0 2 = (96 : Int) := by rw [hm7]; exact wuI_self
        refine ww_go 1 (pc' := 87) (L' := [(0, .inr (.inr (.inl (some (13, 0))))), (1, .inl x), (2, .inl y), (3, .inl b)]) (st' := []) (m' := m7) (o := none) rfl trivial ?_
        exact ww_rV rfl rfl ⟨rfl, rfl, zB_mono hGm7 (by omega), hFm7, by trivial⟩
      · show wW (zK sc) zM124 33 [(0, .inr (.inr (.inl (some (13, 0))))), (1, .inl x), (2, .inl y), (3, .inl b)] [.inr (.inr (.inl (some (13, 0))))] _ _ _
        refine ww_go 3 (pc' := 42) (L' := [(0, .inr (.inr (.inl (some (13, 0))))), (1, .inl x), (2, .inl y), (3, .inl b)]) (st' := []) (m' := wuI m0 13 0 2 y) (o := some ((0 < 1))) rfl (show (0 < 1) from by omega) ?_
        obtain ⟨m9, hm9⟩ : ∃ zq9 : wm, zq9 = wuI m0 13 0 2 y := ⟨_, rfl⟩
        rw [← hm9]
        have hGm9 : zB c m9 := by rw [hm9]; exact zB_wI rfl (show 0 ≤ y ∧ y ≤ 96 from by omega) hG
        have hFm9 : zfr (fun k i j => (k = 13) ∨ (k = 14) ∨ (k = 15)) m0 m9 := by rw [hm9]; exact zfr_wI hF (show (13 = 13) ∨ (13 = 14) ∨ (13 = 15) from Or.inl rfl)
        have s10 : m9.1 13 0 2 = y := by rw [hm9]; exact wuI_self
        refine ww_go 1 (pc' := 87) (L' := [(0, .inr (.inr (.inl (some (13, 0))))), (1, .inl x), (2, .inl y), (3, .inl b)]) (st' := []) (m' := m9) (o := none) rfl trivial ?_
        exact ww_rV rfl rfl ⟨rfl, rfl, zB_mono hGm9 (by omega), hFm9, by trivial⟩
    · refine ⟨44, 45, by rw [h1]; rfl, rfl, ?_⟩
      show wW (zK sc) zM124 45 [(0, .inr (.inr (.inl (some (13, 0))))), (1, .inl x), (2, .inl y), (3, .inl b)] [] _ _ _
      refine ww_go 2 (pc' := 47) (L' := [(0, .inr (.inr (.inl (some (13, 0))))), (1, .inl x), (2, .inl y), (3, .inl b)]) (st' := [.inl b, .inr (.inr (.inl (some (13, 0))))]) (m' := m0) (o := none) rfl trivial ?_
      refine ww_if (t := 54) rfl rfl (by omega) (fun (h11 : b = 0) => ?_) (fun (h11 : ¬ (b = 0)) => ?_)
      · show wW (zK sc) zM124 54 [(0, .inr (.inr (.inl (some (13, 0))))), (1, .inl x), (2, .inl y), (3, .inl b)] [.inr (.inr (.inl (some (13, 0))))] _ _ _
        refine ww_go 2 (pc' := 59) (L' := [(0, .inr (.inr (.inl (some (13, 0))))), (1, .inl x), (2, .inl y), (3, .inl b)]) (st' := []) (m' := wuI m0 13 0 3 6) (o := some ((0 < 1))) rfl (show (0 < 1) from by omega) ?_
        obtain ⟨m12, hm12⟩ : ∃ zq9 : wm, zq9 = wuI m0 13 0 3 6 := ⟨_, rfl⟩
        rw [← hm12]
        have hGm12 : zB c m12 := by rw [hm12]; exact zB_wI rfl (show 0 ≤ (6 : Int) ∧ (6 : Int) ≤ 6 from by omega) hG
        have hFm12 : zfr (fun k i j => (k = 13) ∨ (k = 14) ∨ (k = 15)) m0 m12 := by rw [hm12]; exact zfr_wI hF (show (13 = 13) ∨ (13 = 14) ∨ (13 = 15) from Or.inl rfl)
        have s13 : m12.1 13 0 3 = (6 : Int) := by rw [hm12]; exact wuI_self
        refine ww_go 1 (pc' := 87) (L' := [(0, .inr (.inr (.inl (some (13, 0))))), (1, .inl x), (2, .inl y), (3, .inl b)]) (st' := []) (m' := m12) (o := none) rfl trivial ?_
        exact ww_rV rfl rfl ⟨rfl, rfl, zB_mono hGm12 (by omega), hFm12, by trivial⟩
      · show wW (zK sc) zM124 50 [(0, .inr (.inr (.inl (some (13, 0))))), (1, .inl x), (2, .inl y), (3, .inl b)] [.inr (.inr (.inl (some (13, 0))))] _ _ _
        refine ww_go 3 (pc' := 59) (L' := [(0, .inr (.inr (.inl (some (13, 0))))), (1, .inl x), (2, .inl y), (3, .inl b)]) (st' := []) (m' := wuI m0 13 0 3 y) (o := some ((0 < 1))) rfl (show (0 < 1) from by omega) ?_
        obtain ⟨m14, hm14⟩ : ∃ zq9 : wm, zq9 = wuI m0 13 0 3 y := ⟨_, rfl⟩
        rw [← hm14]
        have hGm14 : zB c m14 := by rw [hm14]; exact zB_wI rfl (show 0 ≤ y ∧ y ≤ 6 from by omega) hG
        have hFm14 : zfr (fun k i j => (k = 13) ∨ (k = 14) ∨ (k = 15)) m0 m14 := by rw [hm14]; exact zfr_wI hF (show (13 = 13) ∨ (13 = 14) ∨ (13 = 15) from Or.inl rfl)
        have s15 : m14.1 13 0 3 = y := by rw [hm14]; exact wuI_self
        refine ww_go 1 (pc' := 87) (L' := [(0, .inr (.inr (.inl (some (13, 0))))), (1, .inl x), (2, .inl y), (3, .inl b)]) (st' := []) (m' := m14) (o := none) rfl trivial ?_
        exact ww_rV rfl rfl ⟨rfl, rfl, zB_mono hGm14 (by omega), hFm14, by trivial⟩
    · refine ⟨61, 62, by rw [h1]; rfl, rfl, ?_⟩
      show wW (zK sc) zM124 62 [(0, .inr (.inr (.inl (some (13, 0))))), (1, .inl x), (2, .inl y), (3, .inl b)] [] _ _ _
      have t16 := wand_rg y 255
      have t17 := wand_m255 y
      refine ww_go 7 (pc' := 73) (L' := [(0, .inr (.inr (.inl (some (13, 0))))), (1, .inl x), (2, .inl y), (3, .inl b)]) (st' := []) (m' := wuI m0 14 0 ((wand y 255).toNat) b) (o := some ((0 < 1) ∧ (0 < 1 ∧ 0 ≤ wand y 255 ∧ wand y 255 < ((256 : Nat) : Int) ∧ 0 ≤ b ∧ b ≤ 1))) rfl (show (0 < 1) ∧ (0 < 1 ∧ 0 ≤ wand y 255 ∧ wand y 255 < ((256 : Nat) : Int) ∧ 0 ≤ b ∧ b ≤ 1) from by omega) ?_
      obtain ⟨m18, hm18⟩ : ∃ zq9 : wm, zq9 = wuI m0 14 0 ((wand y 255).toNat) b := ⟨_, rfl⟩
      rw [← hm18]
      have hGm18 : zB c m18 := by rw [hm18]; exact zB_wI rfl (show 0 ≤ b ∧ b ≤ 1 from by omega) hG
      have hFm18 : zfr (fun k i j => (k = 13) ∨ (k = 14) ∨ (k = 15)) m0 m18 := by rw [hm18]; exact zfr_wI hF (show (14 = 13) ∨ (14 = 14) ∨ (14 = 15) from Or.inr (Or.inl rfl))
      have s19 : m18.1 14 0 ((wand y 255).toNat) = b := by rw [hm18]; exact wuI_self
      refine ww_go 1 (pc' := 87) (L' := [(0, .inr (.inr (.inl (some (13, 0))))), (1, .inl x), (2, .inl y), (3, .inl b)]) (st' := []) (m' := m18) (o := none) rfl trivial ?_
      exact ww_rV rfl rfl ⟨rfl, rfl, zB_mono hGm18 (by omega), hFm18, by trivial⟩
set_option maxRecDepth 8000 in
theorem zs122_l26 {sc : xSc} {n : Nat × Nat} {m : wm} {c : Int} (hc : 0 ≤ c ∧ c ≤ 1000000) (x : Int) (t : Nat) (hG : zB c m) (h0 : t < 10 ∧ 0 ≤ x ∧ x ≤ 5) : ∀ (d : Nat), ∀ (u : Nat) (y : Int) (z : Int), (y - z).toNat = d → (u < 171 ∧ 0 ≤ y ∧ y ≤ 10300 ∧ 0 ≤ z ∧ z ≤ 10300) →  wW (zK sc) zM122 26 [(0, .inr (.inr (.inl (some (13, 0))))), (3, .inr (.inr (.inl (some (1, u))))), (4, .inl y), (5, .inl z)] [] n m (wr (fun vv n1 m1 => ∃ r : Int, vv = some (.inl r) ∧ n = n1 ∧ m = m1 ∧ (0 ≤ r ∧ r ≤ 1))) := by
  intro d
  induction d using Nat.strongRecOn with
  | ind d ih =>
    intro u y z hd hi
    refine ww_go 2 (pc' := 30) (L' := [(0, .inr (.inr (.inl (some (13, 0))))), (3, .inr (.inr (.inl (some (1, u))))), (4, .inl y), (5, .inl z)]) (st' := [.inl y, .inl z]) (m' := m) (o := none) rfl trivial ?_
    refine ww_ic (t := 59) rfl rfl (by omega) (fun (h1 : y ≤ z) => ?_) (fun (h1 : ¬ (y ≤ z)) => ?_)
    · show wW (zK sc) zM122 59 [(0, .inr (.inr (.inl (some (13, 0))))), (3, .inr (.inr (.inl (some (1, u))))), (4, .inl y), (5, .inl z)] [] _ _ _
      refine ww_go 1 (pc' := 60) (L' := [(0, .inr (.inr (.inl (some (13, 0))))), (3, .inr (.inr (.inl (some (1, u))))), (4, .inl y), (5, .inl z)]) (st' := [.inl 0]) (m' := m) (o := none) rfl trivial ?_
      exact ww_rB rfl rfl (by omega) ⟨_, rfl, rfl, rfl, by omega⟩
    · show wW (zK sc) zM122 33 [(0, .inr (.inr (.inl (some (13, 0))))), (3, .inr (.inr (.inl (some (1, u))))), (4, .inl y), (5, .inl z)] [] _ _ _
      refine ww_go 4 (pc' := 40) (L' := [(0, .inr (.inr (.inl (some (13, 0))))), (3, .inr (.inr (.inl (some (1, u))))), (4, .inl y), (5, .inl z)]) (st' := [.inl z, .inr (.inr (.inl (some (1, u)))), .inr (.inr (.inl (some (14, 0))))]) (m' := m) (o := some ((0 < 1))) rfl (show (0 < 1) from by omega) ?_
      refine ww_call (vs := [.inr (.inr (.inl (some (1, u)))), .inl z]) (r := [.inr (.inr (.inl (some (14, 0))))]) (p := u < 171) rfl rfl rfl rfl (show u < 171 from by omega) (zs28 (c := c) (by omega) z u hG (by omega)) ?_
      rintro _ _ _ ⟨r2, rfl, rfl, rfl, hr3⟩
      show wW (zK sc) zM122 43 [(0, .inr (.inr (.inl (some (13, 0))))), (3, .inr (.inr (.inl (some (1, u))))), (4, .inl y), (5, .inl z)] [.inl r2, .inr (.inr (.inl (some (14, 0))))] _ _ _
      have t4 := wand_rg r2 255
      have t5 := wand_m255 r2
      have b6 : 0 ≤ m.1 14 0 ((wand r2 255).toNat) ∧ m.1 14 0 ((wand r2 255).toNat) ≤ 1 := hG.1 14 _ rfl _ _
      refine ww_go 3 (pc' := 48) (L' := [(0, .inr (.inr (.inl (some (13, 0))))), (3, .inr (.inr (.inl (some (1, u))))), (4, .inl y), (5, .inl z)]) (st' := [.inl (m.1 14 0 ((wand r2 255).toNat))]) (m' := m) (o := some ((0 < 1 ∧ 0 ≤ wand r2 255 ∧ wand r2 255 < ((256 : Nat) : Int)))) rfl (show (0 < 1 ∧ 0 ≤ wand r2 255 ∧ wand r2 255 < ((256 : Nat) : Int)) from by omega) ?_
      refine ww_if (t := 53) rfl rfl (by omega) (fun (h7 : m.1 14 0 ((wand r2 255).toNat) = 0) => ?_) (fun (h7 : ¬ (m.1 14 0 ((wand r2 255).toNat) = 0)) => ?_)
      · show wW (zK sc) zM122 53 [(0, .inr (.inr (.inl (some (13, 0))))), (3, .inr (.inr (.inl (some (1, u))))), (4, .inl y), (5, .inl z)] [] _ _ _
        refine ww_go 2 (pc' := 26) (L' := [(5, .inl (z + 1)), (0, .inr (.inr (.inl (some (13, 0))))), (3, .inr (.inr (.inl (some (1, u))))), (4, .inl y)]) (st' := []) (m' := m) (o := none) rfl trivial ?_
        refine ww_sub (L := [(0, .inr (.inr (.inl (some (13, 0))))), (3, .inr (.inr (.inl (some (1, u))))), (4, .inl y), (5, .inl (z + 1))]) ⟨rfl, rfl, rfl, rfl, trivial⟩ rfl rfl ?_
        exact (ih _ (by omega)) u y (z + 1) rfl (by omega)
      · show wW (zK sc) zM122 51 [(0, .inr (.inr (.inl (some (13, 0))))), (3, .inr (.inr (.inl (some (1, u))))), (4, .inl y), (5, .inl z)] [] _ _ _
        refine ww_go 1 (pc' := 52) (L' := [(0, .inr (.inr (.inl (some (13, 0))))), (3, .inr (.inr (.inl (some (1, u))))), (4, .inl y), (5, .inl z)]) (st' := [.inl 1]) (m' := m) (o := none) rfl trivial ?_
        exact ww_rB rfl rfl (by omega) ⟨_, rfl, rfl, rfl, by omega⟩
set_option maxRecDepth 8000 in
/-- Rules.hasBadSign -/
theorem zs122 {sc : xSc} {n : Nat × Nat} {m : wm} {c : Int} (hc : 0 ≤ c ∧ c ≤ 1000000) (x : Int) (t : Nat) (hG : zB c m) (h0 : t < 10 ∧ 0 ≤ x ∧ x ≤ 5) : wX (zK sc) 122 [.inr (.inr (.inl (some (13, 0)))), .inr (.inr (.inl (some (26, t)))), .inl x] n m (wr (fun vv n1 m1 => ∃ r : Int, vv = some (.inl r) ∧ n = n1 ∧ m = m1 ∧ (0 ≤ r ∧ r ≤ 1))) := by
  refine wX_of (N := zM122) rfl (Nat.le_of_ble_eq_true rfl) ?_
  show wW (zK sc) zM122 0 [(0, .inr (.inr (.inl (some (13, 0))))), (1, .inr (.inr (.inl (some (26, t))))), (2, .inl x)] [] n m _
  refine ww_go 2 (pc' := 2) (L' := [(0, .inr (.inr (.inl (some (13, 0))))), (1, .inr (.inr (.inl (some (26, t))))), (2, .inl x)]) (st' := [.inl 0, .inr (.inr (.inl (some (26, t))))]) (m' := m) (o := none) rfl trivial ?_
  refine ww_call (vs := [.inr (.inr (.inl (some (26, t)))), .inl 0]) (r := []) (p := t < 10) rfl rfl rfl rfl (show t < 10 from by omega) (zs152 (c := c) (by omega) 0 t hG (by omega)) ?_
  rintro _ _ _ ⟨r1, rfl, rfl, rfl, hr2⟩
  show wW (zK sc) zM122 5 [(0, .inr (.inr (.inl (some (13, 0))))), (1, .inr (.inr (.inl (some (26, t))))), (2, .inl x)] [.inr (.inr (.inl (some (1, r1))))] _ _ _
  refine ww_go 3 (pc' := 8) (L' := [(3, .inr (.inr (.inl (some (1, r1))))), (0, .inr (.inr (.inl (some (13, 0))))), (1, .inr (.inr (.inl (some (26, t))))), (2, .inl x)]) (st' := [.inl x, .inr (.inr (.inl (some (26, t))))]) (m' := m) (o := none) rfl trivial ?_
  refine ww_call (vs := [.inr (.inr (.inl (some (26, t)))), .inl x]) (r := []) (p := t < 10) rfl rfl rfl rfl (show t < 10 from by omega) (zs153 (c := c) (by omega) x t hG (by omega)) ?_
  rintro _ _ _ ⟨r3, rfl, rfl, rfl, hr4⟩
  show wW (zK sc) zM122 11 [(3, .inr (.inr (.inl (some (1, r1))))), (0, .inr (.inr (.inl (some (13, 0))))), (1, .inr (.inr (.inl (some (26, t))))), (2, .inl x)] [.inl r3] _ _ _
  refine ww_go 2 (pc' := 13) (L' := [(3, .inr (.inr (.inl (some (1, r1))))), (0, .inr (.inr (.inl (some (13, 0))))), (1, .inr (.inr (.inl (some (26, t))))), (2, .inl x)]) (st' := [.inl x, .inr (.inr (.inl (some (26, t)))), .inl r3]) (m' := m) (o := none) rfl trivial ?_
  refine ww_call (vs := [.inr (.inr (.inl (some (26, t)))), .inl x]) (r := [.inl r3]) (p := t < 10) rfl rfl rfl rfl (show t < 10 from by omega) (zs154 (c := c) (by omega) x t hG (by omega)) ?_
  rintro _ _ _ ⟨r5, rfl, rfl, rfl, hr6⟩
  show wW (zK sc) zM122 16 [(3, .inr (.inr (.inl (some (1, r1))))), (0, .inr (.inr (.inl (some (13, 0))))), (1, .inr (.inr (.inl (some (26, t))))), (2, .inl x)] [.inl r5, .inl r3] _ _ _
  refine ww_go 4 (pc' := 21) (L' := [(4, .inl (r3 + r5)), (3, .inr (.inr (.inl (some (1, r1))))), (0, .inr (.inr (.inl (some (13, 0))))), (1, .inr (.inr (.inl (some (26, t))))), (2, .inl x)]) (st' := [.inl x, .inr (.inr (.inl (some (26, t))))]) (m' := m) (o := none) rfl trivial ?_
  refine ww_call (vs := [.inr (.inr (.inl (some (26, t)))), .inl x]) (r := []) (p := t < 10) rfl rfl rfl rfl (show t < 10 from by omega) (zs153 (c := c) (by omega) x t hG (by omega)) ?_
  rintro _ _ _ ⟨r7, rfl, rfl, rfl, hr8⟩
  show wW (zK sc) zM122 24 [(4, .inl (r3 + r5)), (3, .inr (.inr (.inl (some (1, r1))))), (0, .inr (.inr (.inl (some (13, 0))))), (1, .inr (.inr (.inl (some (26, t))))), (2, .inl x)] [.inl r7] _ _ _
  refine ww_go 1 (pc' := 26) (L' := [(5, .inl r7), (4, .inl (r3 + r5)), (3, .inr (.inr (.inl (some (1, r1))))), (0, .inr (.inr (.inl (some (13, 0))))), (1, .inr (.inr (.inl (some (26, t))))), (2, .inl x)]) (st' := []) (m' := m) (o := none) rfl trivial ?_
  refine ww_sub (L := [(0, .inr (.inr (.inl (some (13, 0))))), (3, .inr (.inr (.inl (some (1, r1))))), (4, .inl (r3 + r5)), (5, .inl r7)]) ⟨rfl, rfl, rfl, rfl, trivial⟩ rfl rfl ?_
  exact (zs122_l26 hc x t hG h0 _) r1 (r3 + r5) r7 rfl (by omega)
set_option maxRecDepth 8000 in
/-- Rules.isBrokenByFile -/
theorem zs123 {sc : xSc} {n : Nat × Nat} {m : wm} {c : Int} (hc : 0 ≤ c ∧ c ≤ 1000000) (x : Int) (y : Int) (t : Nat) (hG : zB c m) (h0 : t < 10 ∧ 0 ≤ x ∧ x ≤ 3 ∧ 0 ≤ y ∧ y ≤ 5) : wX (zK sc) 123 [.inr (.inr (.inl (some (13, 0)))), .inl x, .inr (.inr (.inl (some (26, t)))), .inl y] n m (wr (fun vv n1 m1 => ∃ r : Int, vv = some (.inl r) ∧ n = n1 ∧ m = m1 ∧ (0 ≤ r ∧ r ≤ 1))) := by
  refine wX_of (N := zM123) rfl (Nat.le_of_ble_eq_true rfl) ?_
  show wW (zK sc) zM123 0 [(0, .inr (.inr (.inl (some (13, 0))))), (1, .inl x), (2, .inr (.inr (.inl (some (26, t))))), (3, .inl y)] [] n m _
  refine ww_go 1 (pc' := 1) (L' := [(0, .inr (.inr (.inl (some (13, 0))))), (1, .inl x), (2, .inr (.inr (.inl (some (26, t))))), (3, .inl y)]) (st' := [.inl x]) (m' := m) (o := none) rfl trivial ?_
  rcases (show x = 0 ∨ x = 2 ∨ (x ≠ 0 ∧ x ≠ 2) from by omega) with h1 | h1 | h1
  · refine ww_lk (t := 28) rfl (by omega) rfl (by rw [h1]; rfl) ?_
    refine ww_go 2 (pc' := 30) (L' := [(0, .inr (.inr (.inl (some (13, 0))))), (1, .inl x), (2, .inr (.inr (.inl (some (26, t))))), (3, .inl y)]) (st' := [.inl y, .inr (.inr (.inl (some (26, t))))]) (m' := m) (o := none) rfl trivial ?_
    refine ww_call (vs := [.inr (.inr (.inl (some (26, t)))), .inl y]) (r := []) (p := t < 10) rfl rfl rfl rfl (show t < 10 from by omega) (zs140 (c := c) (by omega) y t hG (by omega)) ?_
    rintro _ _ _ ⟨r2, rfl, rfl, rfl, hr3⟩
    show wW (zK sc) zM123 33 [(0, .inr (.inr (.inl (some (13, 0))))), (1, .inl x), (2, .inr (.inr (.inl (some (26, t))))), (3, .inl y)] [.inl r2] _ _ _
    have b4 : 0 ≤ m.1 13 0 2 ∧ m.1 13 0 2 ≤ 96 := hG.1 13 _ rfl _ _
    refine ww_go 2 (pc' := 37) (L' := [(0, .inr (.inr (.inl (some (13, 0))))), (1, .inl x), (2, .inr (.inr (.inl (some (26, t))))), (3, .inl y)]) (st' := [.inl (m.1 13 0 2), .inl r2]) (m' := m) (o := some ((0 < 1))) rfl (show (0 < 1) from by omega) ?_
    refine ww_ic (t := 44) rfl rfl (by omega) (fun (h5 : r2 ≤ m.1 13 0 2) => ?_) (fun (h5 : ¬ (r2 ≤ m.1 13 0 2)) => ?_)
    · show wW (zK sc) zM123 44 [(0, .inr (.inr (.inl (some (13, 0))))), (1, .inl x), (2, .inr (.inr (.inl (some (26, t))))), (3, .inl y)] [] _ _ _
      refine ww_go 1 (pc' := 45) (L' := [(0, .inr (.inr (.inl (some (13, 0))))), (1, .inl x), (2, .inr (.inr (.inl (some (26, t))))), (3, .inl y)]) (st' := [.inl 0]) (m' := m) (o := none) rfl trivial ?_
      exact ww_rB rfl rfl (by omega) ⟨_, rfl, rfl, rfl, by omega⟩
    · show wW (zK sc) zM123 40 [(0, .inr (.inr (.inl (some (13, 0))))), (1, .inl x), (2, .inr (.inr (.inl (some (26, t))))), (3, .inl y)] [] _ _ _
      refine ww_go 2 (pc' := 45) (L' := [(0, .inr (.inr (.inl (some (13, 0))))), (1, .inl x), (2, .inr (.inr (.inl (some (26, t))))), (3, .inl y)]) (st' := [.inl 1]) (m' := m) (o := none) rfl trivial ?_
      exact ww_rB rfl rfl (by omega) ⟨_, rfl, rfl, rfl, by omega⟩
  · refine ww_lk (t := 46) rfl (by omega) rfl (by rw [h1]; rfl) ?_
    refine ww_go 3 (pc' := 49) (L' := [(0, .inr (.inr (.inl (some (13, 0))))), (1, .inl x), (2, .inr (.inr (.inl (some (26, t))))), (3, .inl y)]) (st' := [.inl y, .inr (.inr (.inl (some (26, t)))), .inr (.inr (.inl (some (13, 0))))]) (m' := m) (o := none) rfl trivial ?_
    refine ww_call (vs := [.inr (.inr (.inl (some (13, 0)))), .inr (.inr (.inl (some (26, t)))), .inl y]) (r := []) (p := 0 < 1) rfl rfl rfl rfl (show 0 < 1 from by omega) (zs122 (c := c) (by omega) y t hG (by omega)) ?_
    rintro _ _ _ ⟨r6, rfl, rfl, rfl, hr7⟩
    show wW (zK sc) zM123 52 [(0, .inr (.inr (.inl (some (13, 0))))), (1, .inl x), (2, .inr (.inr (.inl (some (26, t))))), (3, .inl y)] [.inl r6] _ _ _
    exact ww_rB rfl rfl (by omega) ⟨_, rfl, rfl, rfl, by omega⟩
  · refine ww_lk (t := 53) rfl (by omega) rfl (show xtg 1 (if (0 : Int) = x then (27 : Int) else if (2 : Int) = x then (45 : Int) else (52 : Int)) = some 53 from by rw [if_neg (by omega), if_neg (by omega)]; rfl) ?_
    refine ww_go 2 (pc' := 55) (L' := [(0, .inr (.inr (.inl (some (13, 0))))), (1, .inl x), (2, .inr (.inr (.inl (some (26, t))))), (3, .inl y)]) (st' := [.inl y, .inr (.inr (.inl (some (26, t))))]) (m' := m) (o := none) rfl trivial ?_
    refine ww_call (vs := [.inr (.inr (.inl (some (26, t)))), .inl y]) (r := []) (p := t < 10) rfl rfl rfl rfl (show t < 10 from by omega) (zs140 (c := c) (by omega) y t hG (by omega)) ?_
    rintro _ _ _ ⟨r8, rfl, rfl, rfl, hr9⟩
    show wW (zK sc) zM123 58 [(0, .inr (.inr (.inl (some (13, 0))))), (1, .inl x), (2, .inr (.inr (.inl (some (26, t))))), (3, .inl y)] [.inl r8] _ _ _
    refine ww_if (t := 88) rfl rfl (by omega) (fun (h10 : r8 ≤ 0) => ?_) (fun (h10 : ¬ (r8 ≤ 0)) => ?_)
    · show wW (zK sc) zM123 88 [(0, .inr (.inr (.inl (some (13, 0))))), (1, .inl x), (2, .inr (.inr (.inl (some (26, t))))), (3, .inl y)] [] _ _ _
      refine ww_go 1 (pc' := 89) (L' := [(0, .inr (.inr (.inl (some (13, 0))))), (1, .inl x), (2, .inr (.inr (.inl (some (26, t))))), (3, .inl y)]) (st' := [.inl 0]) (m' := m) (o := none) rfl trivial ?_
      exact ww_rB rfl rfl (by omega) ⟨_, rfl, rfl, rfl, by omega⟩
    · show wW (zK sc) zM123 61 [(0, .inr (.inr (.inl (some (13, 0))))), (1, .inl x), (2, .inr (.inr (.inl (some (26, t))))), (3, .inl y)] [] _ _ _
      refine ww_go 6 (pc' := 69) (L' := [(0, .inr (.inr (.inl (some (13, 0))))), (1, .inl x), (2, .inr (.inr (.inl (some (26, t))))), (3, .inl y)]) (st' := [.inl (y + 1), .inr (.inr (.inl (some (26, t)))), .inr (.inr (.inl (some (15, 0))))]) (m' := m) (o := some ((0 < 1))) rfl (show (0 < 1) from by omega) ?_
      refine ww_call (vs := [.inr (.inr (.inl (some (26, t)))), .inl (y + 1)]) (r := [.inr (.inr (.inl (some (15, 0))))]) (p := t < 10) rfl rfl rfl rfl (show t < 10 from by omega) (zs152 (c := c) (by omega) (y + 1) t hG (by omega)) ?_
      rintro _ _ _ ⟨r11, rfl, rfl, rfl, hr12⟩
      show wW (zK sc) zM123 72 [(0, .inr (.inr (.inl (some (13, 0))))), (1, .inl x), (2, .inr (.inr (.inl (some (26, t))))), (3, .inl y)] [.inr (.inr (.inl (some (1, r11)))), .inr (.inr (.inl (some (15, 0))))] _ _ _
      refine ww_go 1 (pc' := 73) (L' := [(0, .inr (.inr (.inl (some (13, 0))))), (1, .inl x), (2, .inr (.inr (.inl (some (26, t))))), (3, .inl y)]) (st' := [.inl 0, .inr (.inr (.inl (some (1, r11)))), .inr (.inr (.inl (some (15, 0))))]) (m' := m) (o := none) rfl trivial ?_
      refine ww_call (vs := [.inr (.inr (.inl (some (1, r11)))), .inl 0]) (r := [.inr (.inr (.inl (some (15, 0))))]) (p := r11 < 171) rfl rfl rfl rfl (show r11 < 171 from by omega) (zs28 (c := c) (by omega) 0 r11 hG (by omega)) ?_
      rintro _ _ _ ⟨r13, rfl, rfl, rfl, hr14⟩
      show wW (zK sc) zM123 76 [(0, .inr (.inr (.inl (some (13, 0))))), (1, .inl x), (2, .inr (.inr (.inl (some (26, t))))), (3, .inl y)] [.inl r13, .inr (.inr (.inl (some (15, 0))))] _ _ _
      have t15 := wand_rg r13 255
      have t16 := wand_m255 r13
      have b17 : 0 ≤ m.1 15 0 ((wand r13 255).toNat) ∧ m.1 15 0 ((wand r13 255).toNat) ≤ 1 := hG.1 15 _ rfl _ _
      refine ww_go 3 (pc' := 81) (L' := [(0, .inr (.inr (.inl (some (13, 0))))), (1, .inl x), (2, .inr (.inr (.inl (some (26, t))))), (3, .inl y)]) (st' := [.inl (m.1 15 0 ((wand r13 255).toNat))]) (m' := m) (o := some ((0 < 1 ∧ 0 ≤ wand r13 255 ∧ wand r13 255 < ((256 : Nat) : Int)))) rfl (show (0 < 1 ∧ 0 ≤ wand r13 255 ∧ wand r13 255 < ((256 : Nat) : Int)) from by omega) ?_
      refine ww_if (t := 88) rfl rfl (by omega) (fun (h18 : m.1 15 0 ((wand r13 255).toNat) = 0) => ?_) (fun (h18 : ¬ (m.1 15 0 ((wand r13 255).toNat) = 0)) => ?_)
      · show wW (zK sc) zM123 88 [(0, .inr (.inr (.inl (some (13, 0))))), (1, .inl x), (2, .inr (.inr (.inl (some (26, t))))), (3, .inl y)] [] _ _ _
        refine ww_go 1 (pc' := 89) (L' := [(0, .inr (.inr (.inl (some (13, 0))))), (1, .inl x), (2, .inr (.inr (.inl (some (26, t))))), (3, .inl y)]) (st' := [.inl 0]) (m' := m) (o := none) rfl trivial ?_
        exact ww_rB rfl rfl (by omega) ⟨_, rfl, rfl, rfl, by omega⟩
      · show wW (zK sc) zM123 84 [(0, .inr (.inr (.inl (some (13, 0))))), (1, .inl x), (2, .inr (.inr (.inl (some (26, t))))), (3, .inl y)] [] _ _ _
        refine ww_go 2 (pc' := 89) (L' := [(0, .inr (.inr (.inl (some (13, 0))))), (1, .inl x), (2, .inr (.inr (.inl (some (26, t))))), (3, .inl y)]) (st' := [.inl 1]) (m' := m) (o := none) rfl trivial ?_
        exact ww_rB rfl rfl (by omega) ⟨_, rfl, rfl, rfl, by omega⟩
set_option maxRecDepth 8000 in
theorem zs120_l24 {sc : xSc} {n : Nat × Nat} {m : wm} {c : Int} (hc : 0 ≤ c ∧ c ≤ 1000000) (x : Int) (t : Nat) (hG : zB c m) (h0 : t < 10 ∧ 0 ≤ x ∧ x ≤ 3) : ∀ (d : Nat), ∀ (z : Int), (6 - z).toNat = d → (0 ≤ z ∧ z ≤ 6) →  wW (zK sc) zM120 24 [(0, .inr (.inr (.inl (some (13, 0))))), (1, .inl x), (2, .inr (.inr (.inl (some (26, t))))), (3, .inl z)] [] n m (wr (fun vv n1 m1 => ∃ r : Int, vv = some (.inl r) ∧ n = n1 ∧ m = m1 ∧ (-1 ≤ r ∧ r ≤ 6))) := by
  intro d
  induction d using Nat.strongRecOn with
  | ind d ih =>
    intro z hd hi
    refine ww_go 2 (pc' := 26) (L' := [(0, .inr (.inr (.inl (some (13, 0))))), (1, .inl x), (2, .inr (.inr (.inl (some (26, t))))), (3, .inl z)]) (st' := [.inr (.inr (.inl (some (26, t)))), .inl z]) (m' := m) (o := none) rfl trivial ?_
    refine ww_call (vs := [.inr (.inr (.inl (some (26, t))))]) (r := [.inl z]) (p := t < 10) rfl rfl rfl rfl (show t < 10 from by omega) (zs141 (c := c) (by omega) t hG (by omega)) ?_
    rintro _ _ _ ⟨r1, rfl, rfl, rfl, hr2⟩
    show wW (zK sc) zM120 29 [(0, .inr (.inr (.inl (some (13, 0))))), (1, .inl x), (2, .inr (.inr (.inl (some (26, t))))), (3, .inl z)] [.inl r1, .inl z] _ _ _
    refine ww_ic (t := 52) rfl rfl (by omega) (fun (h3 : r1 ≤ z) => ?_) (fun (h3 : ¬ (r1 ≤ z)) => ?_)
    · show wW (zK sc) zM120 52 [(0, .inr (.inr (.inl (some (13, 0))))), (1, .inl x), (2, .inr (.inr (.inl (some (26, t))))), (3, .inl z)] [] _ _ _
      refine ww_go 1 (pc' := 53) (L' := [(0, .inr (.inr (.inl (some (13, 0))))), (1, .inl x), (2, .inr (.inr (.inl (some (26, t))))), (3, .inl z)]) (st' := [.inl ((-1))]) (m' := m) (o := none) rfl trivial ?_
      exact ww_rI rfl rfl ⟨_, rfl, rfl, rfl, by omega⟩
    · show wW (zK sc) zM120 32 [(0, .inr (.inr (.inl (some (13, 0))))), (1, .inl x), (2, .inr (.inr (.inl (some (26, t))))), (3, .inl z)] [] _ _ _
      refine ww_go 4 (pc' := 36) (L' := [(0, .inr (.inr (.inl (some (13, 0))))), (1, .inl x), (2, .inr (.inr (.inl (some (26, t))))), (3, .inl z)]) (st' := [.inl z, .inr (.inr (.inl (some (26, t)))), .inl x, .inr (.inr (.inl (some (13, 0))))]) (m' := m) (o := none) rfl trivial ?_
      refine ww_call (vs := [.inr (.inr (.inl (some (13, 0)))), .inl x, .inr (.inr (.inl (some (26, t)))), .inl z]) (r := []) (p := 0 < 1) rfl rfl rfl rfl (show 0 < 1 from by omega) (zs123 (c := c) (by omega) x z t hG (by omega)) ?_
      rintro _ _ _ ⟨r4, rfl, rfl, rfl, hr5⟩
      show wW (zK sc) zM120 39 [(0, .inr (.inr (.inl (some (13, 0))))), (1, .inl x), (2, .inr (.inr (.inl (some (26, t))))), (3, .inl z)] [.inl r4] _ _ _
      refine ww_if (t := 46) rfl rfl (by omega) (fun (h6 : r4 = 0) => ?_) (fun (h6 : ¬ (r4 = 0)) => ?_)
      · show wW (zK sc) zM120 46 [(0, .inr (.inr (.inl (some (13, 0))))), (1, .inl x), (2, .inr (.inr (.inl (some (26, t))))), (3, .inl z)] [] _ _ _
        refine ww_go 2 (pc' := 24) (L' := [(3, .inl (z + 1)), (0, .inr (.inr (.inl (some (13, 0))))), (1, .inl x), (2, .inr (.inr (.inl (some (26, t)))))]) (st' := []) (m' := m) (o := none) rfl trivial ?_
        refine ww_sub (L := [(0, .inr (.inr (.inl (some (13, 0))))), (1, .inl x), (2, .inr (.inr (.inl (some (26, t))))), (3, .inl (z + 1))]) ⟨rfl, rfl, rfl, rfl, trivial⟩ rfl rfl ?_
        exact (ih _ (by omega)) (z + 1) rfl (by omega)
      · show wW (zK sc) zM120 42 [(0, .inr (.inr (.inl (some (13, 0))))), (1, .inl x), (2, .inr (.inr (.inl (some (26, t))))), (3, .inl z)] [] _ _ _
        refine ww_go 3 (pc' := 45) (L' := [(0, .inr (.inr (.inl (some (13, 0))))), (1, .inl x), (2, .inr (.inr (.inl (some (26, t))))), (3, .inl z)]) (st' := [.inl (z + 1)]) (m' := m) (o := none) rfl trivial ?_
        exact ww_rI rfl rfl ⟨_, rfl, rfl, rfl, by omega⟩
set_option maxRecDepth 8000 in
/-- Rules.brokenBy -/
theorem zs120 {sc : xSc} {n : Nat × Nat} {m : wm} {c : Int} (hc : 0 ≤ c ∧ c ≤ 1000000) (x : Int) (t : Nat) (hG : zB c m) (h0 : t < 10 ∧ 0 ≤ x ∧ x ≤ 3) : wX (zK sc) 120 [.inr (.inr (.inl (some (13, 0)))), .inl x, .inr (.inr (.inl (some (26, t))))] n m (wr (fun vv n1 m1 => ∃ r : Int, vv = some (.inl r) ∧ n = n1 ∧ m = m1 ∧ (-1 ≤ r ∧ r ≤ 6))) := by
  refine wX_of (N := zM120) rfl (Nat.le_of_ble_eq_true rfl) ?_
  show wW (zK sc) zM120 0 [(0, .inr (.inr (.inl (some (13, 0))))), (1, .inl x), (2, .inr (.inr (.inl (some (26, t)))))] [] n m _
  refine ww_go 2 (pc' := 2) (L' := [(0, .inr (.inr (.inl (some (13, 0))))), (1, .inl x), (2, .inr (.inr (.inl (some (26, t)))))]) (st' := [.inl 1, .inl x]) (m' := m) (o := none) rfl trivial ?_
  refine ww_ic (t := 22) rfl rfl (by omega) (fun (h1 : x ≠ 1) => ?_) (fun (h1 : ¬ (x ≠ 1)) => ?_)
  · show wW (zK sc) zM120 22 [(0, .inr (.inr (.inl (some (13, 0))))), (1, .inl x), (2, .inr (.inr (.inl (some (26, t)))))] [] _ _ _
    refine ww_go 2 (pc' := 24) (L' := [(3, .inl 0), (0, .inr (.inr (.inl (some (13, 0))))), (1, .inl x), (2, .inr (.inr (.inl (some (26, t)))))]) (st' := []) (m' := m) (o := none) rfl trivial ?_
    refine ww_sub (L := [(0, .inr (.inr (.inl (some (13, 0))))), (1, .inl x), (2, .inr (.inr (.inl (some (26, t))))), (3, .inl 0)]) ⟨rfl, rfl, rfl, rfl, trivial⟩ rfl rfl ?_
    exact (zs120_l24 hc x t hG h0 _) 0 rfl (by omega)
  · show wW (zK sc) zM120 5 [(0, .inr (.inr (.inl (some (13, 0))))), (1, .inl x), (2, .inr (.inr (.inl (some (26, t)))))] [] _ _ _
    refine ww_go 1 (pc' := 6) (L' := [(0, .inr (.inr (.inl (some (13, 0))))), (1, .inl x), (2, .inr (.inr (.inl (some (26, t)))))]) (st' := [.inr (.inr (.inl (some (26, t))))]) (m' := m) (o := none) rfl trivial ?_
    refine ww_call (vs := [.inr (.inr (.inl (some (26, t))))]) (r := []) (p := t < 10) rfl rfl rfl rfl (show t < 10 from by omega) (zs141 (c := c) (by omega) t hG (by omega)) ?_
    rintro _ _ _ ⟨r2, rfl, rfl, rfl, hr3⟩
    show wW (zK sc) zM120 9 [(0, .inr (.inr (.inl (some (13, 0))))), (1, .inl x), (2, .inr (.inr (.inl (some (26, t)))))] [.inl r2] _ _ _
    have b4 : 0 ≤ m.1 13 0 3 ∧ m.1 13 0 3 ≤ 6 := hG.1 13 _ rfl _ _
    refine ww_go 2 (pc' := 13) (L' := [(0, .inr (.inr (.inl (some (13, 0))))), (1, .inl x), (2, .inr (.inr (.inl (some (26, t)))))]) (st' := [.inl (m.1 13 0 3), .inl r2]) (m' := m) (o := some ((0 < 1))) rfl (show (0 < 1) from by omega) ?_
    refine ww_ic (t := 20) rfl rfl (by omega) (fun (h5 : r2 ≤ m.1 13 0 3) => ?_) (fun (h5 : ¬ (r2 ≤ m.1 13 0 3)) => ?_)
    · show wW (zK sc) zM120 20 [(0, .inr (.inr (.inl (some (13, 0))))), (1, .inl x), (2, .inr (.inr (.inl (some (26, t)))))] [] _ _ _
      refine ww_go 1 (pc' := 21) (L' := [(0, .inr (.inr (.inl (some (13, 0))))), (1, .inl x), (2, .inr (.inr (.inl (some (26, t)))))]) (st' := [.inl ((-1))]) (m' := m) (o := none) rfl trivial ?_
      exact ww_rI rfl rfl ⟨_, rfl, rfl, rfl, by omega⟩
    · show wW (zK sc) zM120 16 [(0, .inr (.inr (.inl (some (13, 0))))), (1, .inl x), (2, .inr (.inr (.inl (some (26, t)))))] [] _ _ _
      refine ww_go 2 (pc' := 21) (L' := [(0, .inr (.inr (.inl (some (13, 0))))), (1, .inl x), (2, .inr (.inr (.inl (some (26, t)))))]) (st' := [.inl 0]) (m' := m) (o := none) rfl trivial ?_
      exact ww_rI rfl rfl ⟨_, rfl, rfl, rfl, by omega⟩
set_option maxRecDepth 8000 in
/-- Journal.entries -/
theorem zs66 {sc : xSc} {n : Nat × Nat} {m : wm} {c : Int} (hc : 0 ≤ c ∧ c ≤ 1000000)  (hG : zB c m) : wX (zK sc) 66 [.inr (.inr (.inl (some (16, 0))))] n m (wr (fun vv n1 m1 => ∃ r : Int, vv = some (.inl r) ∧ n = n1 ∧ m = m1 ∧ (r = m.1 16 0 3 ∧ 0 ≤ r ∧ r ≤ c))) := by
  refine wX_of (N := zM66) rfl (Nat.le_of_ble_eq_true rfl) ?_
  show wW (zK sc) zM66 0 [(0, .inr (.inr (.inl (some (16, 0)))))] [] n m _
  have b1 : 0 ≤ m.1 16 0 3 ∧ m.1 16 0 3 ≤ c := hG.1 16 _ rfl _ _
  refine ww_go 2 (pc' := 4) (L' := [(0, .inr (.inr (.inl (some (16, 0)))))]) (st' := [.inl (m.1 16 0 3)]) (m' := m) (o := some ((0 < 1))) rfl (show (0 < 1) from by omega) ?_
  exact ww_rI rfl rfl ⟨_, rfl, rfl, rfl, by exact ⟨rfl, by omega, by omega⟩⟩
set_option maxRecDepth 8000 in
/-- Journal.firstKept -/
theorem zs67 {sc : xSc} {n : Nat × Nat} {m : wm} {c : Int} (hc : 0 ≤ c ∧ c ≤ 1000000)  (hG : zB c m) : wX (zK sc) 67 [.inr (.inr (.inl (some (16, 0))))] n m (wr (fun vv n1 m1 => ∃ r : Int, vv = some (.inl r) ∧ n = n1 ∧ m = m1 ∧ (0 ≤ r ∧ r ≤ c))) := by
  refine wX_of (N := zM67) rfl (Nat.le_of_ble_eq_true rfl) ?_
  show wW (zK sc) zM67 0 [(0, .inr (.inr (.inl (some (16, 0)))))] [] n m _
  have b1 : 0 ≤ m.1 16 0 3 ∧ m.1 16 0 3 ≤ c := hG.1 16 _ rfl _ _
  refine ww_go 6 (pc' := 11) (L' := [(0, .inr (.inr (.inl (some (16, 0)))))]) (st' := [.inl (max 0 ((m.1 16 0 3) - 30))]) (m' := m) (o := some ((0 < 1) ∧ (-2147483648 ≤ (0 : Int) ∧ (0 : Int) ≤ 2147483647 ∧ -2147483648 ≤ (m.1 16 0 3) - 30 ∧ (m.1 16 0 3) - 30 ≤ 2147483647))) rfl (show (0 < 1) ∧ (-2147483648 ≤ (0 : Int) ∧ (0 : Int) ≤ 2147483647 ∧ -2147483648 ≤ (m.1 16 0 3) - 30 ∧ (m.1 16 0 3) - 30 ≤ 2147483647) from by omega) ?_
  exact ww_rI rfl rfl ⟨_, rfl, rfl, rfl, by omega⟩
set_option maxRecDepth 8000 in
/-- Journal.keeps -/
theorem zs68 {sc : xSc} {n : Nat × Nat} {m : wm} {c : Int} (hc : 0 ≤ c ∧ c ≤ 1000000) (x : Int) (hG : zB c m) (h0 : -2147483648 ≤ x ∧ x ≤ 2147483647) : wX (zK sc) 68 [.inr (.inr (.inl (some (16, 0)))), .inl x] n m (wr (fun vv n1 m1 => ∃ r : Int, vv = some (.inl r) ∧ n = n1 ∧ m = m1 ∧ ((r = 1 ∧ 0 ≤ x ∧ x < m.1 16 0 3) ∨ r = 0))) := by
  refine wX_of (N := zM68) rfl (Nat.le_of_ble_eq_true rfl) ?_
  show wW (zK sc) zM68 0 [(0, .inr (.inr (.inl (some (16, 0))))), (1, .inl x)] [] n m _
  refine ww_go 2 (pc' := 2) (L' := [(0, .inr (.inr (.inl (some (16, 0))))), (1, .inl x)]) (st' := [.inr (.inr (.inl (some (16, 0)))), .inl x]) (m' := m) (o := none) rfl trivial ?_
  refine ww_call (vs := [.inr (.inr (.inl (some (16, 0))))]) (r := [.inl x]) (p := 0 < 1) rfl rfl rfl rfl (show 0 < 1 from by omega) (zs67 (c := c) (by omega) hG) ?_
  rintro _ _ _ ⟨r1, rfl, rfl, rfl, hr2⟩
  show wW (zK sc) zM68 5 [(0, .inr (.inr (.inl (some (16, 0))))), (1, .inl x)] [.inl r1, .inl x] _ _ _
  refine ww_ic (t := 20) rfl rfl (by omega) (fun (h3 : x < r1) => ?_) (fun (h3 : ¬ (x < r1)) => ?_)
  · show wW (zK sc) zM68 20 [(0, .inr (.inr (.inl (some (16, 0))))), (1, .inl x)] [] _ _ _
    refine ww_go 1 (pc' := 21) (L' := [(0, .inr (.inr (.inl (some (16, 0))))), (1, .inl x)]) (st' := [.inl 0]) (m' := m) (o := none) rfl trivial ?_
    exact ww_rB rfl rfl (by omega) ⟨_, rfl, rfl, rfl, by omega⟩
  · show wW (zK sc) zM68 8 [(0, .inr (.inr (.inl (some (16, 0))))), (1, .inl x)] [] _ _ _
    have b4 : 0 ≤ m.1 16 0 3 ∧ m.1 16 0 3 ≤ c := hG.1 16 _ rfl _ _
    refine ww_go 3 (pc' := 13) (L' := [(0, .inr (.inr (.inl (some (16, 0))))), (1, .inl x)]) (st' := [.inl (m.1 16 0 3), .inl x]) (m' := m) (o := some ((0 < 1))) rfl (show (0 < 1) from by omega) ?_
    refine ww_ic (t := 20) rfl rfl (by omega) (fun (h5 : m.1 16 0 3 ≤ x) => ?_) (fun (h5 : ¬ (m.1 16 0 3 ≤ x)) => ?_)
    · show wW (zK sc) zM68 20 [(0, .inr (.inr (.inl (some (16, 0))))), (1, .inl x)] [] _ _ _
      refine ww_go 1 (pc' := 21) (L' := [(0, .inr (.inr (.inl (some (16, 0))))), (1, .inl x)]) (st' := [.inl 0]) (m' := m) (o := none) rfl trivial ?_
      exact ww_rB rfl rfl (by omega) ⟨_, rfl, rfl, rfl, by omega⟩
    · show wW (zK sc) zM68 16 [(0, .inr (.inr (.inl (some (16, 0))))), (1, .inl x)] [] _ _ _
      refine ww_go 2 (pc' := 21) (L' := [(0, .inr (.inr (.inl (some (16, 0))))), (1, .inl x)]) (st' := [.inl 1]) (m' := m) (o := none) rfl trivial ?_
      exact ww_rB rfl rfl (by omega) ⟨_, rfl, rfl, rfl, by omega⟩
set_option maxRecDepth 8000 in
/-- Journal.place -/
theorem zs72 {sc : xSc} {n : Nat × Nat} {m : wm} (x : Int) (y : Int) (h0 : 0 ≤ x ∧ x ≤ 2000000 ∧ 0 ≤ y ∧ y ≤ 3) : wX (zK sc) 72 [.inl x, .inl y] n m (wr (fun vv n1 m1 => ∃ r : Int, vv = some (.inl r) ∧ n = n1 ∧ m = m1 ∧ (r = 4 * (x % 30) + y))) := by
  refine wX_of (N := zM72) rfl (Nat.le_of_ble_eq_true rfl) ?_
  show wW (zK sc) zM72 0 [(0, .inl x), (1, .inl y)] [] n m _
  have t1 : (0 ≤ x → x.tmod 30 = x % 30) ∧ (x < 0 → x.tmod 30 = -((-x) % 30)) := ⟨fun z => Int.tmod_eq_emod_of_nonneg z, fun z => wtmod_neg z⟩
  refine ww_go 7 (pc' := 8) (L' := [(0, .inl x), (1, .inl y)]) (st' := [.inl (((x.tmod 30) * 4) + y)]) (m' := m) (o := some ((-2147483648 ≤ x ∧ x ≤ 2147483647 ∧ 0 < (30 : Int) ∧ (30 : Int) ≤ 2147483647))) rfl (show (-2147483648 ≤ x ∧ x ≤ 2147483647 ∧ 0 < (30 : Int) ∧ (30 : Int) ≤ 2147483647) from by omega) ?_
  exact ww_rI rfl rfl ⟨_, rfl, rfl, rfl, by omega⟩
set_option maxRecDepth 8000 in
/-- Journal.number -/
theorem zs71 {sc : xSc} {n : Nat × Nat} {m : wm} {c : Int} (hc : 0 ≤ c ∧ c ≤ 1000000) (x : Int) (y : Int) (hG : zB c m) (h0 : 0 ≤ x ∧ x ≤ 2000000 ∧ 0 ≤ y ∧ y ≤ 3) : wX (zK sc) 71 [.inr (.inr (.inl (some (16, 0)))), .inl x, .inl y] n m (wr (fun vv n1 m1 => ∃ r : Int, vv = some (.inl r) ∧ n = n1 ∧ m = m1 ∧ (0 ≤ r ∧ r ≤ 65535))) := by
  refine wX_of (N := zM71) rfl (Nat.le_of_ble_eq_true rfl) ?_
  show wW (zK sc) zM71 0 [(0, .inr (.inr (.inl (some (16, 0))))), (1, .inl x), (2, .inl y)] [] n m _
  refine ww_go 4 (pc' := 6) (L' := [(0, .inr (.inr (.inl (some (16, 0))))), (1, .inl x), (2, .inl y)]) (st' := [.inl y, .inl x, .inr (.inr (.inl (some (17, 0))))]) (m' := m) (o := some ((0 < 1))) rfl (show (0 < 1) from by omega) ?_
  refine ww_call (vs := [.inl x, .inl y]) (r := [.inr (.inr (.inl (some (17, 0))))]) (p := True) rfl rfl rfl rfl trivial (zs72 x y (by omega)) ?_
  rintro _ _ _ ⟨r1, rfl, rfl, rfl, hr2⟩
  show wW (zK sc) zM71 9 [(0, .inr (.inr (.inl (some (16, 0))))), (1, .inl x), (2, .inl y)] [.inl r1, .inr (.inr (.inl (some (17, 0))))] _ _ _
  have b3 : 0 ≤ m.1 17 0 r1.toNat ∧ m.1 17 0 r1.toNat ≤ 65535 := hG.1 17 _ rfl _ _
  refine ww_go 1 (pc' := 10) (L' := [(0, .inr (.inr (.inl (some (16, 0))))), (1, .inl x), (2, .inl y)]) (st' := [.inl (m.1 17 0 r1.toNat)]) (m' := m) (o := some ((0 < 1 ∧ 0 ≤ r1 ∧ r1 < ((120 : Nat) : Int)))) rfl (show (0 < 1 ∧ 0 ≤ r1 ∧ r1 < ((120 : Nat) : Int)) from by omega) ?_
  exact ww_rI rfl rfl ⟨_, rfl, rfl, rfl, by omega⟩
set_option maxRecDepth 8000 in
/-- Journal.link -/
theorem zs69 {sc : xSc} {n : Nat × Nat} {m : wm} {c : Int} (hc : 0 ≤ c ∧ c ≤ 1000000) (x : Int) (hG : zB c m) (h0 : 0 ≤ x ∧ x ≤ 2000000) : wX (zK sc) 69 [.inr (.inr (.inl (some (16, 0)))), .inl x] n m (wr (fun vv n1 m1 => ∃ r : Int64, vv = some (.inr (.inl r)) ∧ n = n1 ∧ m = m1 ∧ True)) := by
  refine wX_of (N := zM69) rfl (Nat.le_of_ble_eq_true rfl) ?_
  show wW (zK sc) zM69 0 [(0, .inr (.inr (.inl (some (16, 0))))), (1, .inl x)] [] n m _
  have t1 : (0 ≤ x → x.tmod 30 = x % 30) ∧ (x < 0 → x.tmod 30 = -((-x) % 30)) := ⟨fun z => Int.tmod_eq_emod_of_nonneg z, fun z => wtmod_neg z⟩
  refine ww_go 6 (pc' := 9) (L' := [(0, .inr (.inr (.inl (some (16, 0))))), (1, .inl x)]) (st' := [.inr (.inl (m.2.1 18 0 ((x.tmod 30).toNat)))]) (m' := m) (o := some ((0 < 1) ∧ (-2147483648 ≤ x ∧ x ≤ 2147483647 ∧ 0 < (30 : Int) ∧ (30 : Int) ≤ 2147483647) ∧ (0 < 1 ∧ 0 ≤ x.tmod 30 ∧ x.tmod 30 < ((30 : Nat) : Int)))) rfl (show (0 < 1) ∧ (-2147483648 ≤ x ∧ x ≤ 2147483647 ∧ 0 < (30 : Int) ∧ (30 : Int) ≤ 2147483647) ∧ (0 < 1 ∧ 0 ≤ x.tmod 30 ∧ x.tmod 30 < ((30 : Nat) : Int)) from by omega) ?_
  exact ww_rL rfl rfl ⟨_, rfl, rfl, rfl, by trivial⟩
set_option maxRecDepth 8000 in
/-- Journal.turn -/
theorem zs73 {sc : xSc} {n : Nat × Nat} {m0 : wm} {c : Int} (hc : 0 ≤ c ∧ c ≤ 1000000) (x : Int) (y : Int) (z : Int) (hG : zB c m0) (h0 : 0 ≤ x ∧ x ≤ 2000000 ∧ 0 ≤ y ∧ y ≤ 3) : wX (zK sc) 73 [.inr (.inr (.inl (some (16, 0)))), .inl x, .inl y, .inl z] n m0 (wr (fun vv n1 m1 => vv = none ∧ n = n1 ∧ zB c m1 ∧ zfr (fun k i j => (k = 17)) m0 m1 ∧ True)) := by
  refine wX_of (N := zM73) rfl (Nat.le_of_ble_eq_true rfl) ?_
  show wW (zK sc) zM73 0 [(0, .inr (.inr (.inl (some (16, 0))))), (1, .inl x), (2, .inl y), (3, .inl z)] [] n m0 _
  have hF : zfr (fun k i j => (k = 17)) m0 m0 := zfr_rf
  refine ww_go 4 (pc' := 6) (L' := [(0, .inr (.inr (.inl (some (16, 0))))), (1, .inl x), (2, .inl y), (3, .inl z)]) (st' := [.inl y, .inl x, .inr (.inr (.inl (some (17, 0))))]) (m' := m0) (o := some ((0 < 1))) rfl (show (0 < 1) from by omega) ?_
  refine ww_call (vs := [.inl x, .inl y]) (r := [.inr (.inr (.inl (some (17, 0))))]) (p := True) rfl rfl rfl rfl trivial (zs72 x y (by omega)) ?_
  rintro _ _ _ ⟨r1, rfl, rfl, rfl, hr2⟩
  show wW (zK sc) zM73 9 [(0, .inr (.inr (.inl (some (16, 0))))), (1, .inl x), (2, .inl y), (3, .inl z)] [.inl r1, .inr (.inr (.inl (some (17, 0))))] _ _ _
  have b3 : 0 ≤ m0.1 17 0 r1.toNat ∧ m0.1 17 0 r1.toNat ≤ 65535 := hG.1 17 _ rfl _ _
  have t4 := wand_rg z 255
  have t5 := wand_m255 z
  have t6 := wxor_rg (m0.1 17 0 r1.toNat) (wand z 255)
  have t7 : (0 ≤ m0.1 17 0 r1.toNat ∧ m0.1 17 0 r1.toNat ≤ 255 ∧ 0 ≤ wand z 255 ∧ wand z 255 ≤ 255) → (0 ≤ wxor (m0.1 17 0 r1.toNat) (wand z 255) ∧ wxor (m0.1 17 0 r1.toNat) (wand z 255) ≤ 255) := fun z => wxor_255 ⟨z.1, z.2.1⟩ z.2.2
  have t8 : (0 ≤ m0.1 17 0 r1.toNat ∧ m0.1 17 0 r1.toNat ≤ 65535 ∧ 0 ≤ wand z 255 ∧ wand z 255 ≤ 65535) → (0 ≤ wxor (m0.1 17 0 r1.toNat) (wand z 255) ∧ wxor (m0.1 17 0 r1.toNat) (wand z 255) ≤ 65535) := fun z => wxor_65535 ⟨z.1, z.2.1⟩ z.2.2
  have t9 : (0 ≤ m0.1 17 0 r1.toNat ∧ m0.1 17 0 r1.toNat ≤ 2147483647 ∧ 0 ≤ wand z 255 ∧ wand z 255 ≤ 2147483647) → (0 ≤ wxor (m0.1 17 0 r1.toNat) (wand z 255) ∧ wxor (m0.1 17 0 r1.toNat) (wand z 255) ≤ 2147483647) := fun z => wxor_2147483647 ⟨z.1, z.2.1⟩ z.2.2
  refine ww_go 7 (pc' := 18) (L' := [(0, .inr (.inr (.inl (some (16, 0))))), (1, .inl x), (2, .inl y), (3, .inl z)]) (st' := []) (m' := wuI m0 17 0 r1.toNat (wxor (m0.1 17 0 r1.toNat) (wand z 255))) (o := some ((0 < 1 ∧ 0 ≤ r1 ∧ r1 < ((120 : Nat) : Int)) ∧ (0 < 1 ∧ 0 ≤ r1 ∧ r1 < ((120 : Nat) : Int)))) rfl (show (0 < 1 ∧ 0 ≤ r1 ∧ r1 < ((120 : Nat) : Int)) ∧ (0 < 1 ∧ 0 ≤ r1 ∧ r1 < ((120 : Nat) : Int)) from by omega) ?_
  obtain ⟨m10, hm10⟩ : ∃ zq9 : wm, zq9 = wuI m0 17 0 r1.toNat (wxor (m0.1 17 0 r1.toNat) (wand z 255)) := ⟨_, rfl⟩
  rw [← hm10]
  have hGm10 : zB c m10 := by rw [hm10]; exact zB_wI rfl (show 0 ≤ wxor (m0.1 17 0 r1.toNat) (wand z 255) ∧ wxor (m0.1 17 0 r1.toNat) (wand z 255) ≤ 65535 from by omega) hG
  have hFm10 : zfr (fun k i j => (k = 17)) m0 m10 := by rw [hm10]; exact zfr_wI hF (show (17 = 17) from rfl)
  have s11 : m10.1 17 0 r1.toNat = wxor (m0.1 17 0 r1.toNat) (wand z 255) := by rw [hm10]; exact wuI_self
  exact ww_rV rfl rfl ⟨rfl, rfl, zB_mono hGm10 (by omega), hFm10, by trivial⟩
set_option maxRecDepth 8000 in
/-- Journal.dueLink -/
theorem zs64 {sc : xSc} {n : Nat × Nat} {m0 : wm} {c : Int} (hc : 0 ≤ c ∧ c ≤ 1000000) (v : Int64) (x : Int) (hG : zB c m0) (h0 : 0 ≤ x ∧ x ≤ 2000000) : wX (zK sc) 64 [.inr (.inr (.inl (some (16, 0)))), .inr (.inl v), .inl x] n m0 (wr (fun vv n1 m1 => ∃ r : Int64, vv = some (.inr (.inl r)) ∧ n = n1 ∧ zB c m1 ∧ zfr (fun k i j => (k = 1 ∧ i = 2 ∧ j = 1) ∨ (k = 2 ∧ i = 2)) m0 m1 ∧ True)) := by
  refine wX_of (N := zM64) rfl (Nat.le_of_ble_eq_true rfl) ?_
  show wW (zK sc) zM64 0 [(0, .inr (.inr (.inl (some (16, 0))))), (1, .inr (.inl v)), (3, .inl x)] [] n m0 _
  have hF : zfr (fun k i j => (k = 1 ∧ i = 2 ∧ j = 1) ∨ (k = 2 ∧ i = 2)) m0 m0 := zfr_rf
  refine ww_go 2 (pc' := 4) (L' := [(0, .inr (.inr (.inl (some (16, 0))))), (1, .inr (.inl v)), (3, .inl x)]) (st' := [.inr (.inr (.inl (some (1, 2))))]) (m' := m0) (o := some ((0 < 1))) rfl (show (0 < 1) from by omega) ?_
  refine ww_call (vs := [.inr (.inr (.inl (some (1, 2))))]) (r := []) (p := 2 < 171) rfl rfl rfl rfl (show 2 < 171 from by omega) (zs29 (c := c) (by omega) 2 hG (by omega)) ?_
  rintro _ _ m3 ⟨rfl, rfl, hGm3, hEm3, hr2⟩
  have hFm3 : zfr (fun k i j => (k = 1 ∧ i = 2 ∧ j = 1) ∨ (k = 2 ∧ i = 2)) m0 m3 := zfr_tr hF hEm3 (fun k i j z => Or.inl z)
  show wW (zK sc) zM64 7 [(0, .inr (.inr (.inl (some (16, 0))))), (1, .inr (.inl v)), (3, .inl x)] [] _ _ _
  refine ww_go 4 (pc' := 14) (L' := [(0, .inr (.inr (.inl (some (16, 0))))), (1, .inr (.inl v)), (3, .inl x)]) (st' := [.inl 8, .inr (.inl v), .inr (.inr (.inl (some (1, 2))))]) (m' := m3) (o := some ((0 < 1))) rfl (show (0 < 1) from by omega) ?_
  refine ww_call (vs := [.inr (.inr (.inl (some (1, 2)))), .inr (.inl v), .inl 8]) (r := []) (p := 2 < 171) rfl rfl rfl rfl (show 2 < 171 from by omega) (zs26 (c := c) (by omega) v 8 2 hGm3 (by omega)) ?_
  rintro _ _ m6 ⟨rfl, rfl, hGm6, hEm6, hr5⟩
  have hFm6 : zfr (fun k i j => (k = 1 ∧ i = 2 ∧ j = 1) ∨ (k = 2 ∧ i = 2)) m0 m6 := zfr_tr hFm3 hEm6 (fun k i j z => Or.elim z (fun z => Or.inl z) (fun z => Or.inr (z)))
  show wW (zK sc) zM64 17 [(0, .inr (.inr (.inl (some (16, 0))))), (1, .inr (.inl v)), (3, .inl x)] [] _ _ _
  refine ww_go 5 (pc' := 24) (L' := [(0, .inr (.inr (.inl (some (16, 0))))), (1, .inr (.inl v)), (3, .inl x)]) (st' := [.inl 0, .inl x, .inr (.inr (.inl (some (16, 0)))), .inr (.inr (.inl (some (1, 2))))]) (m' := m6) (o := some ((0 < 1))) rfl (show (0 < 1) from by omega) ?_
  refine ww_call (vs := [.inr (.inr (.inl (some (16, 0)))), .inl x, .inl 0]) (r := [.inr (.inr (.inl (some (1, 2))))]) (p := 0 < 1) rfl rfl rfl rfl (show 0 < 1 from by omega) (zs71 (c := c) (by omega) x 0 hGm6 (by omega)) ?_
  rintro _ _ _ ⟨r7, rfl, rfl, rfl, hr8⟩
  show wW (zK sc) zM64 27 [(0, .inr (.inr (.inl (some (16, 0))))), (1, .inr (.inl v)), (3, .inl x)] [.inl r7, .inr (.inr (.inl (some (1, 2))))] _ _ _
  refine ww_go 2 (pc' := 29) (L' := [(0, .inr (.inr (.inl (some (16, 0))))), (1, .inr (.inl v)), (3, .inl x)]) (st' := [.inl 1, .inr (.inl (wi2l r7)), .inr (.inr (.inl (some (1, 2))))]) (m' := m6) (o := none) rfl trivial ?_
  refine ww_call (vs := [.inr (.inr (.inl (some (1, 2)))), .inr (.inl (wi2l r7)), .inl 1]) (r := []) (p := 2 < 171) rfl rfl rfl rfl (show 2 < 171 from by omega) (zs26 (c := c) (by omega) (wi2l r7) 1 2 hGm6 (by omega)) ?_
  rintro _ _ m11 ⟨rfl, rfl, hGm11, hEm11, hr10⟩
  have hFm11 : zfr (fun k i j => (k = 1 ∧ i = 2 ∧ j = 1) ∨ (k = 2 ∧ i = 2)) m0 m11 := zfr_tr hFm6 hEm11 (fun k i j z => Or.elim z (fun z => Or.inl z) (fun z => Or.inr (z)))
  show wW (zK sc) zM64 32 [(0, .inr (.inr (.inl (some (16, 0))))), (1, .inr (.inl v)), (3, .inl x)] [] _ _ _
  refine ww_go 5 (pc' := 39) (L' := [(0, .inr (.inr (.inl (some (16, 0))))), (1, .inr (.inl v)), (3, .inl x)]) (st' := [.inl 1, .inl x, .inr (.inr (.inl (some (16, 0)))), .inr (.inr (.inl (some (1, 2))))]) (m' := m11) (o := some ((0 < 1))) rfl (show (0 < 1) from by omega) ?_
  refine ww_call (vs := [.inr (.inr (.inl (some (16, 0)))), .inl x, .inl 1]) (r := [.inr (.inr (.inl (some (1, 2))))]) (p := 0 < 1) rfl rfl rfl rfl (show 0 < 1 from by omega) (zs71 (c := c) (by omega) x 1 hGm11 (by omega)) ?_
  rintro _ _ _ ⟨r12, rfl, rfl, rfl, hr13⟩
  show wW (zK sc) zM64 42 [(0, .inr (.inr (.inl (some (16, 0))))), (1, .inr (.inl v)), (3, .inl x)] [.inl r12, .inr (.inr (.inl (some (1, 2))))] _ _ _
  refine ww_go 2 (pc' := 44) (L' := [(0, .inr (.inr (.inl (some (16, 0))))), (1, .inr (.inl v)), (3, .inl x)]) (st' := [.inl 2, .inr (.inl (wi2l r12)), .inr (.inr (.inl (some (1, 2))))]) (m' := m11) (o := none) rfl trivial ?_
  refine ww_call (vs := [.inr (.inr (.inl (some (1, 2)))), .inr (.inl (wi2l r12)), .inl 2]) (r := []) (p := 2 < 171) rfl rfl rfl rfl (show 2 < 171 from by omega) (zs26 (c := c) (by omega) (wi2l r12) 2 2 hGm11 (by omega)) ?_
  rintro _ _ m16 ⟨rfl, rfl, hGm16, hEm16, hr15⟩
  have hFm16 : zfr (fun k i j => (k = 1 ∧ i = 2 ∧ j = 1) ∨ (k = 2 ∧ i = 2)) m0 m16 := zfr_tr hFm11 hEm16 (fun k i j z => Or.elim z (fun z => Or.inl z) (fun z => Or.inr (z)))
  show wW (zK sc) zM64 47 [(0, .inr (.inr (.inl (some (16, 0))))), (1, .inr (.inl v)), (3, .inl x)] [] _ _ _
  refine ww_go 5 (pc' := 54) (L' := [(0, .inr (.inr (.inl (some (16, 0))))), (1, .inr (.inl v)), (3, .inl x)]) (st' := [.inl 2, .inl x, .inr (.inr (.inl (some (16, 0)))), .inr (.inr (.inl (some (1, 2))))]) (m' := m16) (o := some ((0 < 1))) rfl (show (0 < 1) from by omega) ?_
  refine ww_call (vs := [.inr (.inr (.inl (some (16, 0)))), .inl x, .inl 2]) (r := [.inr (.inr (.inl (some (1, 2))))]) (p := 0 < 1) rfl rfl rfl rfl (show 0 < 1 from by omega) (zs71 (c := c) (by omega) x 2 hGm16 (by omega)) ?_
  rintro _ _ _ ⟨r17, rfl, rfl, rfl, hr18⟩
  show wW (zK sc) zM64 57 [(0, .inr (.inr (.inl (some (16, 0))))), (1, .inr (.inl v)), (3, .inl x)] [.inl r17, .inr (.inr (.inl (some (1, 2))))] _ _ _
  refine ww_go 2 (pc' := 59) (L' := [(0, .inr (.inr (.inl (some (16, 0))))), (1, .inr (.inl v)), (3, .inl x)]) (st' := [.inl 1, .inr (.inl (wi2l r17)), .inr (.inr (.inl (some (1, 2))))]) (m' := m16) (o := none) rfl trivial ?_
  refine ww_call (vs := [.inr (.inr (.inl (some (1, 2)))), .inr (.inl (wi2l r17)), .inl 1]) (r := []) (p := 2 < 171) rfl rfl rfl rfl (show 2 < 171 from by omega) (zs26 (c := c) (by omega) (wi2l r17) 1 2 hGm16 (by omega)) ?_
  rintro _ _ m21 ⟨rfl, rfl, hGm21, hEm21, hr20⟩
  have hFm21 : zfr (fun k i j => (k = 1 ∧ i = 2 ∧ j = 1) ∨ (k = 2 ∧ i = 2)) m0 m21 := zfr_tr hFm16 hEm21 (fun k i j z => Or.elim z (fun z => Or.inl z) (fun z => Or.inr (z)))
  show wW (zK sc) zM64 62 [(0, .inr (.inr (.inl (some (16, 0))))), (1, .inr (.inl v)), (3, .inl x)] [] _ _ _
  refine ww_go 5 (pc' := 69) (L' := [(0, .inr (.inr (.inl (some (16, 0))))), (1, .inr (.inl v)), (3, .inl x)]) (st' := [.inl 3, .inl x, .inr (.inr (.inl (some (16, 0)))), .inr (.inr (.inl (some (1, 2))))]) (m' := m21) (o := some ((0 < 1))) rfl (show (0 < 1) from by omega) ?_
  refine ww_call (vs := [.inr (.inr (.inl (some (16, 0)))), .inl x, .inl 3]) (r := [.inr (.inr (.inl (some (1, 2))))]) (p := 0 < 1) rfl rfl rfl rfl (show 0 < 1 from by omega) (zs71 (c := c) (by omega) x 3 hGm21 (by omega)) ?_
  rintro _ _ _ ⟨r22, rfl, rfl, rfl, hr23⟩
  show wW (zK sc) zM64 72 [(0, .inr (.inr (.inl (some (16, 0))))), (1, .inr (.inl v)), (3, .inl x)] [.inl r22, .inr (.inr (.inl (some (1, 2))))] _ _ _
  refine ww_go 2 (pc' := 74) (L' := [(0, .inr (.inr (.inl (some (16, 0))))), (1, .inr (.inl v)), (3, .inl x)]) (st' := [.inl 1, .inr (.inl (wi2l r22)), .inr (.inr (.inl (some (1, 2))))]) (m' := m21) (o := none) rfl trivial ?_
  refine ww_call (vs := [.inr (.inr (.inl (some (1, 2)))), .inr (.inl (wi2l r22)), .inl 1]) (r := []) (p := 2 < 171) rfl rfl rfl rfl (show 2 < 171 from by omega) (zs26 (c := c) (by omega) (wi2l r22) 1 2 hGm21 (by omega)) ?_
  rintro _ _ m26 ⟨rfl, rfl, hGm26, hEm26, hr25⟩
  have hFm26 : zfr (fun k i j => (k = 1 ∧ i = 2 ∧ j = 1) ∨ (k = 2 ∧ i = 2)) m0 m26 := zfr_tr hFm21 hEm26 (fun k i j z => Or.elim z (fun z => Or.inl z) (fun z => Or.inr (z)))
  show wW (zK sc) zM64 77 [(0, .inr (.inr (.inl (some (16, 0))))), (1, .inr (.inl v)), (3, .inl x)] [] _ _ _
  refine ww_go 3 (pc' := 83) (L' := [(0, .inr (.inr (.inl (some (16, 0))))), (1, .inr (.inl v)), (3, .inl x)]) (st' := [.inl 13, .inr (.inr (.inl (some (1, 2))))]) (m' := m26) (o := some ((0 < 1))) rfl (show (0 < 1) from by omega) ?_
  refine ww_call (vs := [.inr (.inr (.inl (some (1, 2)))), .inl 13]) (r := []) (p := 2 < 171) rfl rfl rfl rfl (show 2 < 171 from by omega) (zs33 (c := c) (by omega) 13 2 hGm26 (by omega)) ?_
  rintro _ _ _ ⟨r27, rfl, rfl, rfl, hr28⟩
  show wW (zK sc) zM64 86 [(0, .inr (.inr (.inl (some (16, 0))))), (1, .inr (.inl v)), (3, .inl x)] [.inr (.inl r27)] _ _ _
  exact ww_rL rfl rfl ⟨_, rfl, rfl, zB_mono hGm26 (by omega), hFm26, by trivial⟩
set_option maxRecDepth 8000 in
theorem zs65_l21 {sc : xSc} {n : Nat × Nat} {m0 : wm} {c : Int} (hc : 0 ≤ c ∧ c ≤ 1000000) (a : Int) (b : Int) (x : Int) (y : Int) (hG : zB c m0) (h0 : 0 ≤ a ∧ a ≤ 65535 ∧ 0 ≤ b ∧ b ≤ 65535 ∧ 0 ≤ x ∧ x ≤ 65535 ∧ 0 ≤ y ∧ y ≤ 65535) : ∀ (d : Nat), ∀  (m : wm), 0 = d → zB c m → zfr (fun k i j => (k = 1 ∧ i = 2 ∧ j = 1) ∨ (k = 2 ∧ i = 2) ∨ (k = 16) ∨ (k = 17) ∨ (k = 18)) m0 m →  wW (zK sc) zM65 21 [(0, .inr (.inr (.inl (some (16, 0))))), (1, .inl a), (2, .inl b), (3, .inl x), (4, .inl y)] [] n m (wr (fun vv n1 m1 => vv = none ∧ n = n1 ∧ zB (c + 1) m1 ∧ zfr (fun k i j => (k = 1 ∧ i = 2 ∧ j = 1) ∨ (k = 2 ∧ i = 2) ∨ (k = 16) ∨ (k = 17) ∨ (k = 18)) m0 m1 ∧ True)) := by
  intro d
  induction d using Nat.strongRecOn with
  | ind d ih =>
    intro  m hd hGm hFm 
    have be : 0 ≤ m0.1 16 0 3 ∧ m0.1 16 0 3 ≤ c := hG.1 16 _ rfl _ _
    have b1 : 0 ≤ m.1 16 0 3 ∧ m.1 16 0 3 ≤ c := hGm.1 16 _ rfl _ _
    refine ww_go 5 (pc' := 30) (L' := [(0, .inr (.inr (.inl (some (16, 0))))), (1, .inl a), (2, .inl b), (3, .inl x), (4, .inl y)]) (st' := [.inl 0, .inl (m.1 16 0 3), .inr (.inr (.inl (some (17, 0))))]) (m' := m) (o := some ((0 < 1) ∧ (0 < 1))) rfl (show (0 < 1) ∧ (0 < 1) from by omega) ?_
    refine ww_call (vs := [.inl (m.1 16 0 3), .inl 0]) (r := [.inr (.inr (.inl (some (17, 0))))]) (p := True) rfl rfl rfl rfl trivial (zs72 (m.1 16 0 3) 0 (by omega)) ?_
    rintro _ _ _ ⟨r2, rfl, rfl, rfl, hr3⟩
    show wW (zK sc) zM65 33 [(0, .inr (.inr (.inl (some (16, 0))))), (1, .inl a), (2, .inl b), (3, .inl x), (4, .inl y)] [.inl r2, .inr (.inr (.inl (some (17, 0))))] _ _ _
    refine ww_go 2 (pc' := 35) (L' := [(0, .inr (.inr (.inl (some (16, 0))))), (1, .inl a), (2, .inl b), (3, .inl x), (4, .inl y)]) (st' := []) (m' := wuI m 17 0 r2.toNat a) (o := some ((0 < 1 ∧ 0 ≤ r2 ∧ r2 < ((120 : Nat) : Int)))) rfl (show (0 < 1 ∧ 0 ≤ r2 ∧ r2 < ((120 : Nat) : Int)) from by omega) ?_
    obtain ⟨m4, hm4⟩ : ∃ zq9 : wm, zq9 = wuI m 17 0 r2.toNat a := ⟨_, rfl⟩
    rw [← hm4]
    have hGm4 : zB c m4 := by rw [hm4]; exact zB_wI rfl (show 0 ≤ a ∧ a ≤ 65535 from by omega) hGm
    have hFm4 : zfr (fun k i j => (k = 1 ∧ i = 2 ∧ j = 1) ∨ (k = 2 ∧ i = 2) ∨ (k = 16) ∨ (k = 17) ∨ (k = 18)) m0 m4 := by rw [hm4]; exact zfr_wI hFm (show (17 = 1 ∧ 0 = 2 ∧ r2.toNat = 1) ∨ (17 = 2 ∧ 0 = 2) ∨ (17 = 16) ∨ (17 = 17) ∨ (17 = 18) from Or.inr (Or.inr (Or.inr (Or.inl rfl))))
    have s5 : m4.1 17 0 r2.toNat = a := by rw [hm4]; exact wuI_self
    have w6 : m4.1 16 0 3 = m.1 16 0 3 := by rw [hm4]; rfl
    have b7 : 0 ≤ m4.1 16 0 3 ∧ m4.1 16 0 3 ≤ c := hGm4.1 16 _ rfl _ _
    refine ww_go 5 (pc' := 44) (L' := [(0, .inr (.inr (.inl (some (16, 0))))), (1, .inl a), (2, .inl b), (3, .inl x), (4, .inl y)]) (st' := [.inl 1, .inl (m4.1 16 0 3), .inr (.inr (.inl (some (17, 0))))]) (m' := m4) (o := some ((0 < 1) ∧ (0 < 1))) rfl (show (0 < 1) ∧ (0 < 1) from by omega) ?_
    refine ww_call (vs := [.inl (m4.1 16 0 3), .inl 1]) (r := [.inr (.inr (.inl (some (17, 0))))]) (p := True) rfl rfl rfl rfl trivial (zs72 (m4.1 16 0 3) 1 (by omega)) ?_
    rintro _ _ _ ⟨r8, rfl, rfl, rfl, hr9⟩
    show wW (zK sc) zM65 47 [(0, .inr (.inr (.inl (some (16, 0))))), (1, .inl a), (2, .inl b), (3, .inl x), (4, .inl y)] [.inl r8, .inr (.inr (.inl (some (17, 0))))] _ _ _
    refine ww_go 2 (pc' := 49) (L' := [(0, .inr (.inr (.inl (some (16, 0))))), (1, .inl a), (2, .inl b), (3, .inl x), (4, .inl y)]) (st' := []) (m' := wuI m4 17 0 r8.toNat b) (o := some ((0 < 1 ∧ 0 ≤ r8 ∧ r8 < ((120 : Nat) : Int)))) rfl (show (0 < 1 ∧ 0 ≤ r8 ∧ r8 < ((120 : Nat) : Int)) from by omega) ?_
    obtain ⟨m10, hm10⟩ : ∃ zq9 : wm, zq9 = wuI m4 17 0 r8.toNat b := ⟨_, rfl⟩
    rw [← hm10]
    have hGm10 : zB c m10 := by rw [hm10]; exact zB_wI rfl (show 0 ≤ b ∧ b ≤ 65535 from by omega) hGm4
    have hFm10 : zfr (fun k i j => (k = 1 ∧ i = 2 ∧ j = 1) ∨ (k = 2 ∧ i = 2) ∨ (k = 16) ∨ (k = 17) ∨ (k = 18)) m0 m10 := by rw [hm10]; exact zfr_wI hFm4 (show (17 = 1 ∧ 0 = 2 ∧ r8.toNat = 1) ∨ (17 = 2 ∧ 0 = 2) ∨ (17 = 16) ∨ (17 = 17) ∨ (17 = 18) from Or.inr (Or.inr (Or.inr (Or.inl rfl))))
    have s11 : m10.1 17 0 r8.toNat = b := by rw [hm10]; exact wuI_self
    have w12 : m10.1 16 0 3 = m4.1 16 0 3 := by rw [hm10]; rfl
    have b13 : 0 ≤ m10.1 16 0 3 ∧ m10.1 16 0 3 ≤ c := hGm10.1 16 _ rfl _ _
    refine ww_go 5 (pc' := 58) (L' := [(0, .inr (.inr (.inl (some (16, 0))))), (1, .inl a), (2, .inl b), (3, .inl x), (4, .inl y)]) (st' := [.inl 2, .inl (m10.1 16 0 3), .inr (.inr (.inl (some (17, 0))))]) (m' := m10) (o := some ((0 < 1) ∧ (0 < 1))) rfl (show (0 < 1) ∧ (0 < 1) from by omega) ?_
    refine ww_call (vs := [.inl (m10.1 16 0 3), .inl 2]) (r := [.inr (.inr (.inl (some (17, 0))))]) (p := True) rfl rfl rfl rfl trivial (zs72 (m10.1 16 0 3) 2 (by omega)) ?_
    rintro _ _ _ ⟨r14, rfl, rfl, rfl, hr15⟩
    show wW (zK sc) zM65 61 [(0, .inr (.inr (.inl (some (16, 0))))), (1, .inl a), (2, .inl b), (3, .inl x), (4, .inl y)] [.inl r14, .inr (.inr (.inl (some (17, 0))))] _ _ _
    refine ww_go 2 (pc' := 63) (L' := [(0, .inr (.inr (.inl (some (16, 0))))), (1, .inl a), (2, .inl b), (3, .inl x), (4, .inl y)]) (st' := []) (m' := wuI m10 17 0 r14.toNat x) (o := some ((0 < 1 ∧ 0 ≤ r14 ∧ r14 < ((120 : Nat) : Int)))) rfl (show (0 < 1 ∧ 0 ≤ r14 ∧ r14 < ((120 : Nat) : Int)) from by omega) ?_
    obtain ⟨m16, hm16⟩ : ∃ zq9 : wm, zq9 = wuI m10 17 0 r14.toNat x := ⟨_, rfl⟩
    rw [← hm16]
    have hGm16 : zB c m16 := by rw [hm16]; exact zB_wI rfl (show 0 ≤ x ∧ x ≤ 65535 from by omega) hGm10
    have hFm16 : zfr (fun k i j => (k = 1 ∧ i = 2 ∧ j = 1) ∨ (k = 2 ∧ i = 2) ∨ (k = 16) ∨ (k = 17) ∨ (k = 18)) m0 m16 := by rw [hm16]; exact zfr_wI hFm10 (show (17 = 1 ∧ 0 = 2 ∧ r14.toNat = 1) ∨ (17 = 2 ∧ 0 = 2) ∨ (17 = 16) ∨ (17 = 17) ∨ (17 = 18) from Or.inr (Or.inr (Or.inr (Or.inl rfl))))
    have s17 : m16.1 17 0 r14.toNat = x := by rw [hm16]; exact wuI_self
    have w18 : m16.1 16 0 3 = m10.1 16 0 3 := by rw [hm16]; rfl
    have b19 : 0 ≤ m16.1 16 0 3 ∧ m16.1 16 0 3 ≤ c := hGm16.1 16 _ rfl _ _
    refine ww_go 5 (pc' := 72) (L' := [(0, .inr (.inr (.inl (some (16, 0))))), (1, .inl a), (2, .inl b), (3, .inl x), (4, .inl y)]) (st' := [.inl 3, .inl (m16.1 16 0 3), .inr (.inr (.inl (some (17, 0))))]) (m' := m16) (o := some ((0 < 1) ∧ (0 < 1))) rfl (show (0 < 1) ∧ (0 < 1) from by omega) ?_
    refine ww_call (vs := [.inl (m16.1 16 0 3), .inl 3]) (r := [.inr (.inr (.inl (some (17, 0))))]) (p := True) rfl rfl rfl rfl trivial (zs72 (m16.1 16 0 3) 3 (by omega)) ?_
    rintro _ _ _ ⟨r20, rfl, rfl, rfl, hr21⟩
    show wW (zK sc) zM65 75 [(0, .inr (.inr (.inl (some (16, 0))))), (1, .inl a), (2, .inl b), (3, .inl x), (4, .inl y)] [.inl r20, .inr (.inr (.inl (some (17, 0))))] _ _ _
    refine ww_go 2 (pc' := 78) (L' := [(0, .inr (.inr (.inl (some (16, 0))))), (1, .inl a), (2, .inl b), (3, .inl x), (4, .inl y)]) (st' := []) (m' := wuI m16 17 0 r20.toNat y) (o := some ((0 < 1 ∧ 0 ≤ r20 ∧ r20 < ((120 : Nat) : Int)))) rfl (show (0 < 1 ∧ 0 ≤ r20 ∧ r20 < ((120 : Nat) : Int)) from by omega) ?_
    obtain ⟨m22, hm22⟩ : ∃ zq9 : wm, zq9 = wuI m16 17 0 r20.toNat y := ⟨_, rfl⟩
    rw [← hm22]
    have hGm22 : zB c m22 := by rw [hm22]; exact zB_wI rfl (show 0 ≤ y ∧ y ≤ 65535 from by omega) hGm16
    have hFm22 : zfr (fun k i j => (k = 1 ∧ i = 2 ∧ j = 1) ∨ (k = 2 ∧ i = 2) ∨ (k = 16) ∨ (k = 17) ∨ (k = 18)) m0 m22 := by rw [hm22]; exact zfr_wI hFm16 (show (17 = 1 ∧ 0 = 2 ∧ r20.toNat = 1) ∨ (17 = 2 ∧ 0 = 2) ∨ (17 = 16) ∨ (17 = 17) ∨ (17 = 18) from Or.inr (Or.inr (Or.inr (Or.inl rfl))))
    have s23 : m22.1 17 0 r20.toNat = y := by rw [hm22]; exact wuI_self
    have w24 : m22.1 16 0 3 = m16.1 16 0 3 := by rw [hm22]; rfl
    have b25 : 0 ≤ m22.1 16 0 3 ∧ m22.1 16 0 3 ≤ c := hGm22.1 16 _ rfl _ _
    refine ww_go 6 (pc' := 88) (L' := [(0, .inr (.inr (.inl (some (16, 0))))), (1, .inl a), (2, .inl b), (3, .inl x), (4, .inl y)]) (st' := [.inl (m22.1 16 0 3), .inr (.inl (m22.2.1 16 0 5)), .inr (.inr (.inl (some (16, 0)))), .inr (.inr (.inl (some (16, 0))))]) (m' := m22) (o := some ((0 < 1) ∧ (0 < 1))) rfl (show (0 < 1) ∧ (0 < 1) from by omega) ?_
    refine ww_call (vs := [.inr (.inr (.inl (some (16, 0)))), .inr (.inl (m22.2.1 16 0 5)), .inl (m22.1 16 0 3)]) (r := [.inr (.inr (.inl (some (16, 0))))]) (p := 0 < 1) rfl rfl rfl rfl (show 0 < 1 from by omega) (zs64 (c := c) (by omega) (m22.2.1 16 0 5) (m22.1 16 0 3) hGm22 (by omega)) ?_
    rintro _ _ m28 ⟨r26, rfl, rfl, hGm28, hEm28, hr27⟩
    have hFm28 : zfr (fun k i j => (k = 1 ∧ i = 2 ∧ j = 1) ∨ (k = 2 ∧ i = 2) ∨ (k = 16) ∨ (k = 17) ∨ (k = 18)) m0 m28 := zfr_tr hFm22 hEm28 (fun k i j z => Or.elim z (fun z => Or.inl z) (fun z => Or.inr (Or.inl z)))
    have w29 : m28.1 16 0 3 = m22.1 16 0 3 := (hEm28 16 0 3 (show ¬ ((16 = 1 ∧ 0 = 2 ∧ 3 = 1) ∨ (16 = 2 ∧ 0 = 2)) from by omega)).1
    show wW (zK sc) zM65 91 [(0, .inr (.inr (.inl (some (16, 0))))), (1, .inl a), (2, .inl b), (3, .inl x), (4, .inl y)] [.inr (.inl r26), .inr (.inr (.inl (some (16, 0))))] _ _ _
    refine ww_go 1 (pc' := 94) (L' := [(0, .inr (.inr (.inl (some (16, 0))))), (1, .inl a), (2, .inl b), (3, .inl x), (4, .inl y)]) (st' := []) (m' := wuL m28 16 0 5 r26) (o := some ((0 < 1))) rfl (show (0 < 1) from by omega) ?_
    obtain ⟨m30, hm30⟩ : ∃ zq9 : wm, zq9 = wuL m28 16 0 5 r26 := ⟨_, rfl⟩
    rw [← hm30]
    have hGm30 : zB c m30 := by rw [hm30]; exact zB_wL hGm28
    have hFm30 : zfr (fun k i j => (k = 1 ∧ i = 2 ∧ j = 1) ∨ (k = 2 ∧ i = 2) ∨ (k = 16) ∨ (k = 17) ∨ (k = 18)) m0 m30 := by rw [hm30]; exact zfr_wL hFm28 (show (16 = 1 ∧ 0 = 2 ∧ 5 = 1) ∨ (16 = 2 ∧ 0 = 2) ∨ (16 = 16) ∨ (16 = 17) ∨ (16 = 18) from Or.inr (Or.inr (Or.inl rfl)))
    have w31 : m30.1 16 0 3 = m28.1 16 0 3 := by rw [hm30]; rfl
    have b32 : 0 ≤ m30.1 16 0 3 ∧ m30.1 16 0 3 ≤ c := hGm30.1 16 _ rfl _ _
    have t33 : (0 ≤ (m30.1 16 0 3) → (m30.1 16 0 3).tmod 30 = (m30.1 16 0 3) % 30) ∧ ((m30.1 16 0 3) < 0 → (m30.1 16 0 3).tmod 30 = -((-((m30.1 16 0 3))) % 30)) := ⟨fun z => Int.tmod_eq_emod_of_nonneg z, fun z => wtmod_neg z⟩
    refine ww_go 9 (pc' := 110) (L' := [(0, .inr (.inr (.inl (some (16, 0))))), (1, .inl a), (2, .inl b), (3, .inl x), (4, .inl y)]) (st' := []) (m' := wuL m30 18 0 (((m30.1 16 0 3).tmod 30).toNat) (m30.2.1 16 0 5)) (o := some ((0 < 1) ∧ (0 < 1) ∧ (-2147483648 ≤ m30.1 16 0 3 ∧ m30.1 16 0 3 ≤ 2147483647 ∧ 0 < (30 : Int) ∧ (30 : Int) ≤ 2147483647) ∧ (0 < 1) ∧ (0 < 1 ∧ 0 ≤ (m30.1 16 0 3).tmod 30 ∧ (m30.1 16 0 3).tmod 30 < ((30 : Nat) : Int)))) rfl (show (0 < 1) ∧ (0 < 1) ∧ (-2147483648 ≤ m30.1 16 0 3 ∧ m30.1 16 0 3 ≤ 2147483647 ∧ 0 < (30 : Int) ∧ (30 : Int) ≤ 2147483647) ∧ (0 < 1) ∧ (0 < 1 ∧ 0 ≤ (m30.1 16 0 3).tmod 30 ∧ (m30.1 16 0 3).tmod 30 < ((30 : Nat) : Int)) from by omega) ?_
    obtain ⟨m34, hm34⟩ : ∃ zq9 : wm, zq9 = wuL m30 18 0 (((m30.1 16 0 3).tmod 30).toNat) (m30.2.1 16 0 5) := ⟨_, rfl⟩
    rw [← hm34]
    have hGm34 : zB c m34 := by rw [hm34]; exact zB_wL hGm30
    have hFm34 : zfr (fun k i j => (k = 1 ∧ i = 2 ∧ j = 1) ∨ (k = 2 ∧ i = 2) ∨ (k = 16) ∨ (k = 17) ∨ (k = 18)) m0 m34 := by rw [hm34]; exact zfr_wL hFm30 (show (18 = 1 ∧ 0 = 2 ∧ (((m30.1 16 0 3).tmod 30).toNat) = 1) ∨ (18 = 2 ∧ 0 = 2) ∨ (18 = 16) ∨ (18 = 17) ∨ (18 = 18) from Or.inr (Or.inr (Or.inr (Or.inr (rfl)))))
    have w35 : m34.1 16 0 3 = m30.1 16 0 3 := by rw [hm34]; rfl
    have b36 : 0 ≤ m34.1 16 0 3 ∧ m34.1 16 0 3 ≤ c := hGm34.1 16 _ rfl _ _
    refine ww_go 6 (pc' := 120) (L' := [(0, .inr (.inr (.inl (some (16, 0))))), (1, .inl a), (2, .inl b), (3, .inl x), (4, .inl y)]) (st' := []) (m' := wuI m34 16 0 3 ((m34.1 16 0 3) + 1)) (o := some ((0 < 1) ∧ (0 < 1))) rfl (show (0 < 1) ∧ (0 < 1) from by omega) ?_
    obtain ⟨m37, hm37⟩ : ∃ zq9 : wm, zq9 = wuI m34 16 0 3 ((m34.1 16 0 3) + 1) := ⟨_, rfl⟩
    rw [← hm37]
    have hXm37 := zB_mono (c' := (c + 1)) hGm34 (by omega)
    have hGm37 : zB (c + 1) m37 := by rw [hm37]; exact zB_wI rfl (show 0 ≤ (m34.1 16 0 3) + 1 ∧ (m34.1 16 0 3) + 1 ≤ (c + 1) from by omega) hXm37
    have hFm37 : zfr (fun k i j => (k = 1 ∧ i = 2 ∧ j = 1) ∨ (k = 2 ∧ i = 2) ∨ (k = 16) ∨ (k = 17) ∨ (k = 18)) m0 m37 := by rw [hm37]; exact zfr_wI hFm34 (show (16 = 1 ∧ 0 = 2 ∧ 3 = 1) ∨ (16 = 2 ∧ 0 = 2) ∨ (16 = 16) ∨ (16 = 17) ∨ (16 = 18) from Or.inr (Or.inr (Or.inl rfl)))
    have s38 : m37.1 16 0 3 = (m34.1 16 0 3) + 1 := by rw [hm37]; exact wuI_self
    exact ww_rV rfl rfl ⟨rfl, rfl, zB_mono hGm37 (by omega), hFm37, by trivial⟩
set_option maxRecDepth 8000 in
/-- Journal.enter -/
theorem zs65 {sc : xSc} {n : Nat × Nat} {m0 : wm} {c : Int} (hc : 0 ≤ c ∧ c ≤ 1000000) (a : Int) (b : Int) (x : Int) (y : Int) (hG : zB c m0) (h0 : 0 ≤ a ∧ a ≤ 65535 ∧ 0 ≤ b ∧ b ≤ 65535 ∧ 0 ≤ x ∧ x ≤ 65535 ∧ 0 ≤ y ∧ y ≤ 65535) : wX (zK sc) 65 [.inr (.inr (.inl (some (16, 0)))), .inl a, .inl b, .inl x, .inl y] n m0 (wr (fun vv n1 m1 => vv = none ∧ n = n1 ∧ zB (c + 1) m1 ∧ zfr (fun k i j => (k = 1 ∧ i = 2 ∧ j = 1) ∨ (k = 2 ∧ i = 2) ∨ (k = 16) ∨ (k = 17) ∨ (k = 18)) m0 m1 ∧ True)) := by
  refine wX_of (N := zM65) rfl (Nat.le_of_ble_eq_true rfl) ?_
  show wW (zK sc) zM65 0 [(0, .inr (.inr (.inl (some (16, 0))))), (1, .inl a), (2, .inl b), (3, .inl x), (4, .inl y)] [] n m0 _
  have hF : zfr (fun k i j => (k = 1 ∧ i = 2 ∧ j = 1) ∨ (k = 2 ∧ i = 2) ∨ (k = 16) ∨ (k = 17) ∨ (k = 18)) m0 m0 := zfr_rf
  have be : 0 ≤ m0.1 16 0 3 ∧ m0.1 16 0 3 ≤ c := hG.1 16 _ rfl _ _
  have b1 : 0 ≤ m0.1 16 0 3 ∧ m0.1 16 0 3 ≤ c := hG.1 16 _ rfl _ _
  refine ww_go 3 (pc' := 6) (L' := [(0, .inr (.inr (.inl (some (16, 0))))), (1, .inl a), (2, .inl b), (3, .inl x), (4, .inl y)]) (st' := [.inl 30, .inl (m0.1 16 0 3)]) (m' := m0) (o := some ((0 < 1))) rfl (show (0 < 1) from by omega) ?_
  refine ww_ic (t := 21) rfl rfl (by omega) (fun (h2 : m0.1 16 0 3 < 30) => ?_) (fun (h2 : ¬ (m0.1 16 0 3 < 30)) => ?_)
  · show wW (zK sc) zM65 21 [(0, .inr (.inr (.inl (some (16, 0))))), (1, .inl a), (2, .inl b), (3, .inl x), (4, .inl y)] [] _ _ _
    exact (zs65_l21 hc a b x y hG h0 _)  m0 rfl (zB_mono hG (by omega)) hF 
  · show wW (zK sc) zM65 9 [(0, .inr (.inr (.inl (some (16, 0))))), (1, .inl a), (2, .inl b), (3, .inl x), (4, .inl y)] [] _ _ _
    have b3 : 0 ≤ m0.1 16 0 3 ∧ m0.1 16 0 3 ≤ c := hG.1 16 _ rfl _ _
    refine ww_go 4 (pc' := 15) (L' := [(0, .inr (.inr (.inl (some (16, 0))))), (1, .inl a), (2, .inl b), (3, .inl x), (4, .inl y)]) (st' := [.inl (m0.1 16 0 3), .inr (.inr (.inl (some (16, 0)))), .inr (.inr (.inl (some (16, 0))))]) (m' := m0) (o := some ((0 < 1))) rfl (show (0 < 1) from by omega) ?_
    refine ww_call (vs := [.inr (.inr (.inl (some (16, 0)))), .inl (m0.1 16 0 3)]) (r := [.inr (.inr (.inl (some (16, 0))))]) (p := 0 < 1) rfl rfl rfl rfl (show 0 < 1 from by omega) (zs69 (c := c) (by omega) (m0.1 16 0 3) hG (by omega)) ?_
    rintro _ _ _ ⟨r4, rfl, rfl, rfl, hr5⟩
    show wW (zK sc) zM65 18 [(0, .inr (.inr (.inl (some (16, 0))))), (1, .inl a), (2, .inl b), (3, .inl x), (4, .inl y)] [.inr (.inl r4), .inr (.inr (.inl (some (16, 0))))] _ _ _
    refine ww_go 1 (pc' := 21) (L' := [(0, .inr (.inr (.inl (some (16, 0))))), (1, .inl a), (2, .inl b), (3, .inl x), (4, .inl y)]) (st' := []) (m' := wuL m0 16 0 4 r4) (o := some ((0 < 1))) rfl (show (0 < 1) from by omega) ?_
    obtain ⟨m6, hm6⟩ : ∃ zq9 : wm, zq9 = wuL m0 16 0 4 r4 := ⟨_, rfl⟩
    rw [← hm6]
    have hGm6 : zB c m6 := by rw [hm6]; exact zB_wL hG
    have hFm6 : zfr (fun k i j => (k = 1 ∧ i = 2 ∧ j = 1) ∨ (k = 2 ∧ i = 2) ∨ (k = 16) ∨ (k = 17) ∨ (k = 18)) m0 m6 := by rw [hm6]; exact zfr_wL hF (show (16 = 1 ∧ 0 = 2 ∧ 4 = 1) ∨ (16 = 2 ∧ 0 = 2) ∨ (16 = 16) ∨ (16 = 17) ∨ (16 = 18) from Or.inr (Or.inr (Or.inl rfl)))
    have w7 : m6.1 16 0 3 = m0.1 16 0 3 := by rw [hm6]; rfl
    exact (zs65_l21 hc a b x y hG h0 _)  m6 rfl (zB_mono hGm6 (by omega)) hFm6 
set_option maxRecDepth 8000 in
theorem zs70_l10 {sc : xSc} {n : Nat × Nat} {m0 : wm} {c : Int} (hc : 0 ≤ c ∧ c ≤ 1000000)  (hG : zB c m0) : ∀ (d : Nat), ∀ (v : Int64) (x : Int) (m : wm), (1000000 - x).toNat = d → zB c m → zfr (fun k i j => (k = 1 ∧ i = 2 ∧ j = 1) ∨ (k = 2 ∧ i = 2)) m0 m → (0 ≤ x ∧ x ≤ 1000000) →  wW (zK sc) zM70 10 [(0, .inr (.inr (.inl (some (16, 0))))), (1, .inr (.inl v)), (3, .inl x)] [] n m (wr (fun vv n1 m1 => ∃ r : Int, vv = some (.inl r) ∧ n = n1 ∧ zB c m1 ∧ zfr (fun k i j => (k = 1 ∧ i = 2 ∧ j = 1) ∨ (k = 2 ∧ i = 2)) m0 m1 ∧ (0 ≤ r ∧ r ≤ 1))) := by
  intro d
  induction d using Nat.strongRecOn with
  | ind d ih =>
    intro v x m hd hGm hFm hi
    have b1 : 0 ≤ m.1 16 0 3 ∧ m.1 16 0 3 ≤ c := hGm.1 16 _ rfl _ _
    refine ww_go 3 (pc' := 15) (L' := [(0, .inr (.inr (.inl (some (16, 0))))), (1, .inr (.inl v)), (3, .inl x)]) (st' := [.inl (m.1 16 0 3), .inl x]) (m' := m) (o := some ((0 < 1))) rfl (show (0 < 1) from by omega) ?_
    refine ww_ic (t := 47) rfl rfl (by omega) (fun (h2 : m.1 16 0 3 ≤ x) => ?_) (fun (h2 : ¬ (m.1 16 0 3 ≤ x)) => ?_)
    · show wW (zK sc) zM70 47 [(0, .inr (.inr (.inl (some (16, 0))))), (1, .inr (.inl v)), (3, .inl x)] [] _ _ _
      refine ww_go 1 (pc' := 48) (L' := [(0, .inr (.inr (.inl (some (16, 0))))), (1, .inr (.inl v)), (3, .inl x)]) (st' := [.inl 1]) (m' := m) (o := none) rfl trivial ?_
      exact ww_rB rfl rfl (by omega) ⟨_, rfl, rfl, zB_mono hGm (by omega), hFm, by omega⟩
    · show wW (zK sc) zM70 18 [(0, .inr (.inr (.inl (some (16, 0))))), (1, .inr (.inl v)), (3, .inl x)] [] _ _ _
      refine ww_go 2 (pc' := 20) (L' := [(0, .inr (.inr (.inl (some (16, 0))))), (1, .inr (.inl v)), (3, .inl x)]) (st' := [.inl x, .inr (.inr (.inl (some (16, 0))))]) (m' := m) (o := none) rfl trivial ?_
      refine ww_call (vs := [.inr (.inr (.inl (some (16, 0)))), .inl x]) (r := []) (p := 0 < 1) rfl rfl rfl rfl (show 0 < 1 from by omega) (zs69 (c := c) (by omega) x hGm (by omega)) ?_
      rintro _ _ _ ⟨r3, rfl, rfl, rfl, hr4⟩
      show wW (zK sc) zM70 23 [(0, .inr (.inr (.inl (some (16, 0))))), (1, .inr (.inl v)), (3, .inl x)] [.inr (.inl r3)] _ _ _
      refine ww_go 3 (pc' := 26) (L' := [(0, .inr (.inr (.inl (some (16, 0))))), (1, .inr (.inl v)), (3, .inl x)]) (st' := [.inl x, .inr (.inl v), .inr (.inr (.inl (some (16, 0)))), .inr (.inl r3)]) (m' := m) (o := none) rfl trivial ?_
      refine ww_call (vs := [.inr (.inr (.inl (some (16, 0)))), .inr (.inl v), .inl x]) (r := [.inr (.inl r3)]) (p := 0 < 1) rfl rfl rfl rfl (show 0 < 1 from by omega) (zs64 (c := c) (by omega) v x hGm (by omega)) ?_
      rintro _ _ m7 ⟨r5, rfl, rfl, hGm7, hEm7, hr6⟩
      have hFm7 : zfr (fun k i j => (k = 1 ∧ i = 2 ∧ j = 1) ∨ (k = 2 ∧ i = 2)) m0 m7 := zfr_tr hFm hEm7 (fun k i j z => Or.elim z (fun z => Or.inl z) (fun z => Or.inr (z)))
      show wW (zK sc) zM70 29 [(0, .inr (.inr (.inl (some (16, 0))))), (1, .inr (.inl v)), (3, .inl x)] [.inr (.inl r5), .inr (.inl r3)] _ _ _
      have t8 := wlcmp_rg r3 r5
      refine ww_go 1 (pc' := 30) (L' := [(0, .inr (.inr (.inl (some (16, 0))))), (1, .inr (.inl v)), (3, .inl x)]) (st' := [.inl (wlcmp r3 r5)]) (m' := m7) (o := none) rfl trivial ?_
      refine ww_if (t := 35) rfl rfl (by omega) (fun (h9 : wlcmp r3 r5 = 0) => ?_) (fun (h9 : ¬ (wlcmp r3 r5 = 0)) => ?_)
      · show wW (zK sc) zM70 35 [(0, .inr (.inr (.inl (some (16, 0))))), (1, .inr (.inl v)), (3, .inl x)] [] _ _ _
        refine ww_go 2 (pc' := 37) (L' := [(0, .inr (.inr (.inl (some (16, 0))))), (1, .inr (.inl v)), (3, .inl x)]) (st' := [.inl x, .inr (.inr (.inl (some (16, 0))))]) (m' := m7) (o := none) rfl trivial ?_
        refine ww_call (vs := [.inr (.inr (.inl (some (16, 0)))), .inl x]) (r := []) (p := 0 < 1) rfl rfl rfl rfl (show 0 < 1 from by omega) (zs69 (c := c) (by omega) x hGm7 (by omega)) ?_
        rintro _ _ _ ⟨r10, rfl, rfl, rfl, hr11⟩
        show wW (zK sc) zM70 40 [(0, .inr (.inr (.inl (some (16, 0))))), (1, .inr (.inl v)), (3, .inl x)] [.inr (.inl r10)] _ _ _
        refine ww_go 3 (pc' := 10) (L' := [(3, .inl (x + 1)), (1, .inr (.inl r10)), (0, .inr (.inr (.inl (some (16, 0)))))]) (st' := []) (m' := m7) (o := none) rfl trivial ?_
        refine ww_sub (L := [(0, .inr (.inr (.inl (some (16, 0))))), (1, .inr (.inl r10)), (3, .inl (x + 1))]) ⟨rfl, rfl, rfl, trivial⟩ rfl rfl ?_
        exact (ih _ (by omega)) r10 (x + 1) m7 rfl (zB_mono hGm7 (by omega)) hFm7 (by omega)
      · show wW (zK sc) zM70 33 [(0, .inr (.inr (.inl (some (16, 0))))), (1, .inr (.inl v)), (3, .inl x)] [] _ _ _
        refine ww_go 1 (pc' := 34) (L' := [(0, .inr (.inr (.inl (some (16, 0))))), (1, .inr (.inl v)), (3, .inl x)]) (st' := [.inl 0]) (m' := m7) (o := none) rfl trivial ?_
        exact ww_rB rfl rfl (by omega) ⟨_, rfl, rfl, zB_mono hGm7 (by omega), hFm7, by omega⟩
set_option maxRecDepth 8000 in
/-- Journal.linksHold -/
theorem zs70 {sc : xSc} {n : Nat × Nat} {m0 : wm} {c : Int} (hc : 0 ≤ c ∧ c ≤ 1000000)  (hG : zB c m0) : wX (zK sc) 70 [.inr (.inr (.inl (some (16, 0))))] n m0 (wr (fun vv n1 m1 => ∃ r : Int, vv = some (.inl r) ∧ n = n1 ∧ zB c m1 ∧ zfr (fun k i j => (k = 1 ∧ i = 2 ∧ j = 1) ∨ (k = 2 ∧ i = 2)) m0 m1 ∧ (0 ≤ r ∧ r ≤ 1))) := by
  refine wX_of (N := zM70) rfl (Nat.le_of_ble_eq_true rfl) ?_
  show wW (zK sc) zM70 0 [(0, .inr (.inr (.inl (some (16, 0)))))] [] n m0 _
  have hF : zfr (fun k i j => (k = 1 ∧ i = 2 ∧ j = 1) ∨ (k = 2 ∧ i = 2)) m0 m0 := zfr_rf
  refine ww_go 4 (pc' := 6) (L' := [(1, .inr (.inl (m0.2.1 16 0 4))), (0, .inr (.inr (.inl (some (16, 0)))))]) (st' := [.inr (.inr (.inl (some (16, 0))))]) (m' := m0) (o := some ((0 < 1))) rfl (show (0 < 1) from by omega) ?_
  refine ww_call (vs := [.inr (.inr (.inl (some (16, 0))))]) (r := []) (p := 0 < 1) rfl rfl rfl rfl (show 0 < 1 from by omega) (zs67 (c := c) (by omega) hG) ?_
  rintro _ _ _ ⟨r1, rfl, rfl, rfl, hr2⟩
  show wW (zK sc) zM70 9 [(1, .inr (.inl (m0.2.1 16 0 4))), (0, .inr (.inr (.inl (some (16, 0)))))] [.inl r1] _ _ _
  refine ww_go 1 (pc' := 10) (L' := [(3, .inl r1), (1, .inr (.inl (m0.2.1 16 0 4))), (0, .inr (.inr (.inl (some (16, 0)))))]) (st' := []) (m' := m0) (o := none) rfl trivial ?_
  refine ww_sub (L := [(0, .inr (.inr (.inl (some (16, 0))))), (1, .inr (.inl (m0.2.1 16 0 4))), (3, .inl r1)]) ⟨rfl, rfl, rfl, trivial⟩ rfl rfl ?_
  exact (zs70_l10 hc hG _) (m0.2.1 16 0 4) r1 m0 rfl (zB_mono hG (by omega)) hF (by omega)
set_option maxRecDepth 8000 in
/-- Receiver.shown -/
theorem zs101 {sc : xSc} {n : Nat × Nat} {m : wm} {c : Int} (hc : 0 ≤ c ∧ c ≤ 1000000) (x : Int) (hG : zB c m) (h0 : 0 ≤ x ∧ x ≤ 1) : wX (zK sc) 101 [.inr (.inr (.inl (some (19, 0)))), .inl x] n m (wr (fun vv n1 m1 => ∃ r : Nat, vv = some (.inr (.inr (.inl (some (26, r))))) ∧ n = n1 ∧ m = m1 ∧ (r = 8 + x.toNat))) := by
  refine wX_of (N := zM101) rfl (Nat.le_of_ble_eq_true rfl) ?_
  show wW (zK sc) zM101 0 [(0, .inr (.inr (.inl (some (19, 0))))), (1, .inl x)] [] n m _
  refine ww_go 4 (pc' := 6) (L' := [(0, .inr (.inr (.inl (some (19, 0))))), (1, .inl x)]) (st' := [.inr (.inr (.inl (some (26, 8 + x.toNat))))]) (m' := m) (o := some ((0 < 1) ∧ (0 < 1 ∧ 0 ≤ x ∧ x < ((2 : Nat) : Int)))) rfl (show (0 < 1) ∧ (0 < 1 ∧ 0 ≤ x ∧ x < ((2 : Nat) : Int)) from by omega) ?_
  exact ww_rA rfl rfl ⟨_, rfl, rfl, rfl, by rfl⟩
set_option maxRecDepth 8000 in
/-- Receiver.dropped -/
theorem zs78 {sc : xSc} {n : Nat × Nat} {m : wm} {c : Int} (hc : 0 ≤ c ∧ c ≤ 1000000)  (hG : zB c m) : wX (zK sc) 78 [.inr (.inr (.inl (some (19, 0))))] n m (wr (fun vv n1 m1 => ∃ r : Int, vv = some (.inl r) ∧ n = n1 ∧ m = m1 ∧ (0 ≤ r ∧ r ≤ c))) := by
  refine wX_of (N := zM78) rfl (Nat.le_of_ble_eq_true rfl) ?_
  show wW (zK sc) zM78 0 [(0, .inr (.inr (.inl (some (19, 0)))))] [] n m _
  have b1 : 0 ≤ m.1 19 0 6 ∧ m.1 19 0 6 ≤ c := hG.1 19 _ rfl _ _
  refine ww_go 2 (pc' := 4) (L' := [(0, .inr (.inr (.inl (some (19, 0)))))]) (st' := [.inl (m.1 19 0 6)]) (m' := m) (o := some ((0 < 1))) rfl (show (0 < 1) from by omega) ?_
  exact ww_rI rfl rfl ⟨_, rfl, rfl, rfl, by omega⟩
set_option maxRecDepth 8000 in
/-- Receiver.allRows -/
theorem zs75 {sc : xSc} {n : Nat × Nat} {m : wm} {c : Int} (hc : 0 ≤ c ∧ c ≤ 1000000)  (hG : zB c m) : wX (zK sc) 75 [.inr (.inr (.inl (some (19, 0))))] n m (wr (fun vv n1 m1 => ∃ r : Int, vv = some (.inl r) ∧ n = n1 ∧ m = m1 ∧ (0 ≤ r ∧ r ≤ 24))) := by
  refine wX_of (N := zM75) rfl (Nat.le_of_ble_eq_true rfl) ?_
  show wW (zK sc) zM75 0 [(0, .inr (.inr (.inl (some (19, 0)))))] [] n m _
  refine ww_go 2 (pc' := 4) (L' := [(0, .inr (.inr (.inl (some (19, 0)))))]) (st' := [.inr (.inr (.inl (some (22, 0))))]) (m' := m) (o := some ((0 < 1))) rfl (show (0 < 1) from by omega) ?_
  refine ww_call (vs := [.inr (.inr (.inl (some (22, 0))))]) (r := []) (p := 0 < 1) rfl rfl rfl rfl (show 0 < 1 from by omega) (zs118 (c := c) (by omega) hG) ?_
  rintro _ _ _ ⟨r1, rfl, rfl, rfl, hr2⟩
  show wW (zK sc) zM75 7 [(0, .inr (.inr (.inl (some (19, 0)))))] [.inl r1] _ _ _
  exact ww_rI rfl rfl ⟨_, rfl, rfl, rfl, by omega⟩
set_option maxRecDepth 8000 in
/-- Receiver.loseRows -/
theorem zs95 {sc : xSc} {n : Nat × Nat} {m0 : wm} {c : Int} (hc : 0 ≤ c ∧ c ≤ 1000000)  (hG : zB c m0) : wX (zK sc) 95 [.inr (.inr (.inl (some (19, 0))))] n m0 (wr (fun vv n1 m1 => vv = none ∧ n = n1 ∧ zB c m1 ∧ zfr (fun k i j => (k = 22) ∨ (k = 23) ∨ (k = 24) ∨ (k = 25)) m0 m1 ∧ True)) := by
  refine wX_of (N := zM95) rfl (Nat.le_of_ble_eq_true rfl) ?_
  show wW (zK sc) zM95 0 [(0, .inr (.inr (.inl (some (19, 0)))))] [] n m0 _
  have hF : zfr (fun k i j => (k = 22) ∨ (k = 23) ∨ (k = 24) ∨ (k = 25)) m0 m0 := zfr_rf
  refine ww_go 2 (pc' := 4) (L' := [(0, .inr (.inr (.inl (some (19, 0)))))]) (st' := [.inr (.inr (.inl (some (22, 0))))]) (m' := m0) (o := some ((0 < 1))) rfl (show (0 < 1) from by omega) ?_
  refine ww_call (vs := [.inr (.inr (.inl (some (22, 0))))]) (r := []) (p := 0 < 1) rfl rfl rfl rfl (show 0 < 1 from by omega) (zs107 (c := c) (by omega) hG) ?_
  rintro _ _ m3 ⟨rfl, rfl, hGm3, hEm3, hr2⟩
  have hFm3 : zfr (fun k i j => (k = 22) ∨ (k = 23) ∨ (k = 24) ∨ (k = 25)) m0 m3 := zfr_tr hF hEm3 (fun k i j z => Or.elim z (fun z => Or.inl z) (fun z => Or.elim z (fun z => Or.inr (Or.inl z)) (fun z => Or.elim z (fun z => Or.inr (Or.inr (Or.inl z))) (fun z => Or.inr (Or.inr (Or.inr (z)))))))
  show wW (zK sc) zM95 7 [(0, .inr (.inr (.inl (some (19, 0)))))] [] _ _ _
  exact ww_rV rfl rfl ⟨rfl, rfl, zB_mono hGm3 (by omega), hFm3, by trivial⟩
set_option maxRecDepth 8000 in
/-- Receiver.knownAt -/
theorem zs87 {sc : xSc} {n : Nat × Nat} {m : wm} {c : Int} (hc : 0 ≤ c ∧ c ≤ 1000000) (x : Int) (y : Int) (hG : zB c m) (h0 : 0 ≤ x ∧ x ≤ 1 ∧ 0 ≤ y ∧ y ≤ 3) : wX (zK sc) 87 [.inr (.inr (.inl (some (19, 0)))), .inl x, .inl y] n m (wr (fun vv n1 m1 => ∃ r : Nat, vv = some (.inr (.inr (.inl (some (26, r))))) ∧ n = n1 ∧ m = m1 ∧ (r < 8))) := by
  refine wX_of (N := zM87) rfl (Nat.le_of_ble_eq_true rfl) ?_
  show wW (zK sc) zM87 0 [(0, .inr (.inr (.inl (some (19, 0))))), (1, .inl x), (2, .inl y)] [] n m _
  refine ww_go 8 (pc' := 10) (L' := [(0, .inr (.inr (.inl (some (19, 0))))), (1, .inl x), (2, .inl y)]) (st' := [.inr (.inr (.inl (some (26, (((x * 4) + y).toNat)))))]) (m' := m) (o := some ((0 < 1) ∧ (0 < 1 ∧ 0 ≤ (x * 4) + y ∧ (x * 4) + y < ((8 : Nat) : Int)))) rfl (show (0 < 1) ∧ (0 < 1 ∧ 0 ≤ (x * 4) + y ∧ (x * 4) + y < ((8 : Nat) : Int)) from by omega) ?_
  exact ww_rA rfl rfl ⟨_, rfl, rfl, rfl, by omega⟩
set_option maxRecDepth 8000 in
theorem zs79_l2 {sc : xSc} {n : Nat × Nat} {m : wm} {c : Int} (hc : 0 ≤ c ∧ c ≤ 1000000) (x : Int) (y : Int) (hG : zB c m) (h0 : 0 ≤ x ∧ x ≤ 1 ∧ -2147483648 ≤ y ∧ y ≤ 2147483647) : ∀ (d : Nat), ∀ (z : Int), (4 - z).toNat = d → (0 ≤ z ∧ z ≤ 4) →  wW (zK sc) zM79 2 [(0, .inr (.inr (.inl (some (19, 0))))), (1, .inl x), (2, .inl y), (3, .inl z)] [] n m (wr (fun vv n1 m1 => ∃ r : Option (Nat × Nat), vv = some (.inr (.inr (.inl r))) ∧ n = n1 ∧ m = m1 ∧ (r = none ∨ ∃ e : Nat, r = some (26, e) ∧ (e < 8)))) := by
  intro d
  induction d using Nat.strongRecOn with
  | ind d ih =>
    intro z hd hi
    refine ww_go 2 (pc' := 4) (L' := [(0, .inr (.inr (.inl (some (19, 0))))), (1, .inl x), (2, .inl y), (3, .inl z)]) (st' := [.inl 4, .inl z]) (m' := m) (o := none) rfl trivial ?_
    refine ww_ic (t := 33) rfl rfl (by omega) (fun (h1 : 4 ≤ z) => ?_) (fun (h1 : ¬ (4 ≤ z)) => ?_)
    · show wW (zK sc) zM79 33 [(0, .inr (.inr (.inl (some (19, 0))))), (1, .inl x), (2, .inl y), (3, .inl z)] [] _ _ _
      refine ww_go 1 (pc' := 34) (L' := [(0, .inr (.inr (.inl (some (19, 0))))), (1, .inl x), (2, .inl y), (3, .inl z)]) (st' := [.inr (.inr (.inl none))]) (m' := m) (o := none) rfl trivial ?_
      exact ww_rA rfl rfl ⟨_, rfl, rfl, rfl, Or.inl rfl⟩
    · show wW (zK sc) zM79 7 [(0, .inr (.inr (.inl (some (19, 0))))), (1, .inl x), (2, .inl y), (3, .inl z)] [] _ _ _
      refine ww_go 3 (pc' := 10) (L' := [(0, .inr (.inr (.inl (some (19, 0))))), (1, .inl x), (2, .inl y), (3, .inl z)]) (st' := [.inl z, .inl x, .inr (.inr (.inl (some (19, 0))))]) (m' := m) (o := none) rfl trivial ?_
      refine ww_call (vs := [.inr (.inr (.inl (some (19, 0)))), .inl x, .inl z]) (r := []) (p := 0 < 1) rfl rfl rfl rfl (show 0 < 1 from by omega) (zs87 (c := c) (by omega) x z hG (by omega)) ?_
      rintro _ _ _ ⟨r2, rfl, rfl, rfl, hr3⟩
      show wW (zK sc) zM79 13 [(0, .inr (.inr (.inl (some (19, 0))))), (1, .inl x), (2, .inl y), (3, .inl z)] [.inr (.inr (.inl (some (26, r2))))] _ _ _
      refine ww_call (vs := [.inr (.inr (.inl (some (26, r2))))]) (r := []) (p := r2 < 10) rfl rfl rfl rfl (show r2 < 10 from by omega) (zs155 (c := c) (by omega) r2 hG (by omega)) ?_
      rintro _ _ _ ⟨r4, rfl, rfl, rfl, hr5⟩
      show wW (zK sc) zM79 16 [(0, .inr (.inr (.inl (some (19, 0))))), (1, .inl x), (2, .inl y), (3, .inl z)] [.inl r4] _ _ _
      refine ww_go 1 (pc' := 17) (L' := [(0, .inr (.inr (.inl (some (19, 0))))), (1, .inl x), (2, .inl y), (3, .inl z)]) (st' := [.inl y, .inl r4]) (m' := m) (o := none) rfl trivial ?_
      refine ww_ic (t := 27) rfl rfl (by omega) (fun (h6 : r4 ≠ y) => ?_) (fun (h6 : ¬ (r4 ≠ y)) => ?_)
      · show wW (zK sc) zM79 27 [(0, .inr (.inr (.inl (some (19, 0))))), (1, .inl x), (2, .inl y), (3, .inl z)] [] _ _ _
        refine ww_go 2 (pc' := 2) (L' := [(3, .inl (z + 1)), (0, .inr (.inr (.inl (some (19, 0))))), (1, .inl x), (2, .inl y)]) (st' := []) (m' := m) (o := none) rfl trivial ?_
        refine ww_sub (L := [(0, .inr (.inr (.inl (some (19, 0))))), (1, .inl x), (2, .inl y), (3, .inl (z + 1))]) ⟨rfl, rfl, rfl, rfl, trivial⟩ rfl rfl ?_
        exact (ih _ (by omega)) (z + 1) rfl (by omega)
      · show wW (zK sc) zM79 20 [(0, .inr (.inr (.inl (some (19, 0))))), (1, .inl x), (2, .inl y), (3, .inl z)] [] _ _ _
        refine ww_go 3 (pc' := 23) (L' := [(0, .inr (.inr (.inl (some (19, 0))))), (1, .inl x), (2, .inl y), (3, .inl z)]) (st' := [.inl z, .inl x, .inr (.inr (.inl (some (19, 0))))]) (m' := m) (o := none) rfl trivial ?_
        refine ww_call (vs := [.inr (.inr (.inl (some (19, 0)))), .inl x, .inl z]) (r := []) (p := 0 < 1) rfl rfl rfl rfl (show 0 < 1 from by omega) (zs87 (c := c) (by omega) x z hG (by omega)) ?_
        rintro _ _ _ ⟨r7, rfl, rfl, rfl, hr8⟩
        show wW (zK sc) zM79 26 [(0, .inr (.inr (.inl (some (19, 0))))), (1, .inl x), (2, .inl y), (3, .inl z)] [.inr (.inr (.inl (some (26, r7))))] _ _ _
        exact ww_rA rfl rfl ⟨_, rfl, rfl, rfl, Or.inr ⟨_, rfl, by omega⟩⟩
set_option maxRecDepth 8000 in
/-- Receiver.find -/
theorem zs79 {sc : xSc} {n : Nat × Nat} {m : wm} {c : Int} (hc : 0 ≤ c ∧ c ≤ 1000000) (x : Int) (y : Int) (hG : zB c m) (h0 : 0 ≤ x ∧ x ≤ 1 ∧ -2147483648 ≤ y ∧ y ≤ 2147483647) : wX (zK sc) 79 [.inr (.inr (.inl (some (19, 0)))), .inl x, .inl y] n m (wr (fun vv n1 m1 => ∃ r : Option (Nat × Nat), vv = some (.inr (.inr (.inl r))) ∧ n = n1 ∧ m = m1 ∧ (r = none ∨ ∃ e : Nat, r = some (26, e) ∧ (e < 8)))) := by
  refine wX_of (N := zM79) rfl (Nat.le_of_ble_eq_true rfl) ?_
  show wW (zK sc) zM79 0 [(0, .inr (.inr (.inl (some (19, 0))))), (1, .inl x), (2, .inl y)] [] n m _
  refine ww_go 2 (pc' := 2) (L' := [(3, .inl 0), (0, .inr (.inr (.inl (some (19, 0))))), (1, .inl x), (2, .inl y)]) (st' := []) (m' := m) (o := none) rfl trivial ?_
  refine ww_sub (L := [(0, .inr (.inr (.inl (some (19, 0))))), (1, .inl x), (2, .inl y), (3, .inl 0)]) ⟨rfl, rfl, rfl, rfl, trivial⟩ rfl rfl ?_
  exact (zs79_l2 hc x y hG h0 _) 0 rfl (by omega)
set_option maxRecDepth 8000 in
theorem zs89_l9 {sc : xSc} {n : Nat × Nat} {m : wm} {c : Int} (hc : 0 ≤ c ∧ c ≤ 1000000) (x : Int) (hG : zB c m) (h0 : 0 ≤ x ∧ x ≤ 1) : ∀ (d : Nat), ∀ (u : Nat) (z : Int), (4 - z).toNat = d → (u < 8 ∧ 1 ≤ z ∧ z ≤ 4) →  wW (zK sc) zM89 9 [(0, .inr (.inr (.inl (some (19, 0))))), (1, .inl x), (2, .inr (.inr (.inl (some (26, u))))), (3, .inl z)] [] n m (wr (fun vv n1 m1 => ∃ r : Nat, vv = some (.inr (.inr (.inl (some (26, r))))) ∧ n = n1 ∧ m = m1 ∧ (r < 8))) := by
  intro d
  induction d using Nat.strongRecOn with
  | ind d ih =>
    intro u z hd hi
    refine ww_go 2 (pc' := 11) (L' := [(0, .inr (.inr (.inl (some (19, 0))))), (1, .inl x), (2, .inr (.inr (.inl (some (26, u))))), (3, .inl z)]) (st' := [.inl 4, .inl z]) (m' := m) (o := none) rfl trivial ?_
    refine ww_ic (t := 43) rfl rfl (by omega) (fun (h1 : 4 ≤ z) => ?_) (fun (h1 : ¬ (4 ≤ z)) => ?_)
    · show wW (zK sc) zM89 43 [(0, .inr (.inr (.inl (some (19, 0))))), (1, .inl x), (2, .inr (.inr (.inl (some (26, u))))), (3, .inl z)] [] _ _ _
      refine ww_go 1 (pc' := 44) (L' := [(0, .inr (.inr (.inl (some (19, 0))))), (1, .inl x), (2, .inr (.inr (.inl (some (26, u))))), (3, .inl z)]) (st' := [.inr (.inr (.inl (some (26, u))))]) (m' := m) (o := none) rfl trivial ?_
      exact ww_rA rfl rfl ⟨_, rfl, rfl, rfl, by omega⟩
    · show wW (zK sc) zM89 14 [(0, .inr (.inr (.inl (some (19, 0))))), (1, .inl x), (2, .inr (.inr (.inl (some (26, u))))), (3, .inl z)] [] _ _ _
      refine ww_go 3 (pc' := 17) (L' := [(0, .inr (.inr (.inl (some (19, 0))))), (1, .inl x), (2, .inr (.inr (.inl (some (26, u))))), (3, .inl z)]) (st' := [.inl z, .inl x, .inr (.inr (.inl (some (19, 0))))]) (m' := m) (o := none) rfl trivial ?_
      refine ww_call (vs := [.inr (.inr (.inl (some (19, 0)))), .inl x, .inl z]) (r := []) (p := 0 < 1) rfl rfl rfl rfl (show 0 < 1 from by omega) (zs87 (c := c) (by omega) x z hG (by omega)) ?_
      rintro _ _ _ ⟨r2, rfl, rfl, rfl, hr3⟩
      show wW (zK sc) zM89 20 [(0, .inr (.inr (.inl (some (19, 0))))), (1, .inl x), (2, .inr (.inr (.inl (some (26, u))))), (3, .inl z)] [.inr (.inr (.inl (some (26, r2))))] _ _ _
      refine ww_call (vs := [.inr (.inr (.inl (some (26, r2))))]) (r := []) (p := r2 < 10) rfl rfl rfl rfl (show r2 < 10 from by omega) (zs155 (c := c) (by omega) r2 hG (by omega)) ?_
      rintro _ _ _ ⟨r4, rfl, rfl, rfl, hr5⟩
      show wW (zK sc) zM89 23 [(0, .inr (.inr (.inl (some (19, 0))))), (1, .inl x), (2, .inr (.inr (.inl (some (26, u))))), (3, .inl z)] [.inl r4] _ _ _
      refine ww_go 1 (pc' := 24) (L' := [(0, .inr (.inr (.inl (some (19, 0))))), (1, .inl x), (2, .inr (.inr (.inl (some (26, u))))), (3, .inl z)]) (st' := [.inr (.inr (.inl (some (26, u)))), .inl r4]) (m' := m) (o := none) rfl trivial ?_
      refine ww_call (vs := [.inr (.inr (.inl (some (26, u))))]) (r := [.inl r4]) (p := u < 10) rfl rfl rfl rfl (show u < 10 from by omega) (zs155 (c := c) (by omega) u hG (by omega)) ?_
      rintro _ _ _ ⟨r6, rfl, rfl, rfl, hr7⟩
      show wW (zK sc) zM89 27 [(0, .inr (.inr (.inl (some (19, 0))))), (1, .inl x), (2, .inr (.inr (.inl (some (26, u))))), (3, .inl z)] [.inl r6, .inl r4] _ _ _
      refine ww_ic (t := 37) rfl rfl (by omega) (fun (h8 : r6 ≤ r4) => ?_) (fun (h8 : ¬ (r6 ≤ r4)) => ?_)
      · show wW (zK sc) zM89 37 [(0, .inr (.inr (.inl (some (19, 0))))), (1, .inl x), (2, .inr (.inr (.inl (some (26, u))))), (3, .inl z)] [] _ _ _
        refine ww_go 2 (pc' := 9) (L' := [(3, .inl (z + 1)), (0, .inr (.inr (.inl (some (19, 0))))), (1, .inl x), (2, .inr (.inr (.inl (some (26, u)))))]) (st' := []) (m' := m) (o := none) rfl trivial ?_
        refine ww_sub (L := [(0, .inr (.inr (.inl (some (19, 0))))), (1, .inl x), (2, .inr (.inr (.inl (some (26, u))))), (3, .inl (z + 1))]) ⟨rfl, rfl, rfl, rfl, trivial⟩ rfl rfl ?_
        exact (ih _ (by omega)) u (z + 1) rfl (by omega)
      · show wW (zK sc) zM89 30 [(0, .inr (.inr (.inl (some (19, 0))))), (1, .inl x), (2, .inr (.inr (.inl (some (26, u))))), (3, .inl z)] [] _ _ _
        refine ww_go 3 (pc' := 33) (L' := [(0, .inr (.inr (.inl (some (19, 0))))), (1, .inl x), (2, .inr (.inr (.inl (some (26, u))))), (3, .inl z)]) (st' := [.inl z, .inl x, .inr (.inr (.inl (some (19, 0))))]) (m' := m) (o := none) rfl trivial ?_
        refine ww_call (vs := [.inr (.inr (.inl (some (19, 0)))), .inl x, .inl z]) (r := []) (p := 0 < 1) rfl rfl rfl rfl (show 0 < 1 from by omega) (zs87 (c := c) (by omega) x z hG (by omega)) ?_
        rintro _ _ _ ⟨r9, rfl, rfl, rfl, hr10⟩
        show wW (zK sc) zM89 36 [(0, .inr (.inr (.inl (some (19, 0))))), (1, .inl x), (2, .inr (.inr (.inl (some (26, u))))), (3, .inl z)] [.inr (.inr (.inl (some (26, r9))))] _ _ _
        refine ww_go 3 (pc' := 9) (L' := [(3, .inl (z + 1)), (2, .inr (.inr (.inl (some (26, r9))))), (0, .inr (.inr (.inl (some (19, 0))))), (1, .inl x)]) (st' := []) (m' := m) (o := none) rfl trivial ?_
        refine ww_sub (L := [(0, .inr (.inr (.inl (some (19, 0))))), (1, .inl x), (2, .inr (.inr (.inl (some (26, r9))))), (3, .inl (z + 1))]) ⟨rfl, rfl, rfl, rfl, trivial⟩ rfl rfl ?_
        exact (ih _ (by omega)) r9 (z + 1) rfl (by omega)
set_option maxRecDepth 8000 in
/-- Receiver.leastOf -/
theorem zs89 {sc : xSc} {n : Nat × Nat} {m : wm} {c : Int} (hc : 0 ≤ c ∧ c ≤ 1000000) (x : Int) (hG : zB c m) (h0 : 0 ≤ x ∧ x ≤ 1) : wX (zK sc) 89 [.inr (.inr (.inl (some (19, 0)))), .inl x] n m (wr (fun vv n1 m1 => ∃ r : Nat, vv = some (.inr (.inr (.inl (some (26, r))))) ∧ n = n1 ∧ m = m1 ∧ (r < 8))) := by
  refine wX_of (N := zM89) rfl (Nat.le_of_ble_eq_true rfl) ?_
  show wW (zK sc) zM89 0 [(0, .inr (.inr (.inl (some (19, 0))))), (1, .inl x)] [] n m _
  refine ww_go 3 (pc' := 3) (L' := [(0, .inr (.inr (.inl (some (19, 0))))), (1, .inl x)]) (st' := [.inl 0, .inl x, .inr (.inr (.inl (some (19, 0))))]) (m' := m) (o := none) rfl trivial ?_
  refine ww_call (vs := [.inr (.inr (.inl (some (19, 0)))), .inl x, .inl 0]) (r := []) (p := 0 < 1) rfl rfl rfl rfl (show 0 < 1 from by omega) (zs87 (c := c) (by omega) x 0 hG (by omega)) ?_
  rintro _ _ _ ⟨r1, rfl, rfl, rfl, hr2⟩
  show wW (zK sc) zM89 6 [(0, .inr (.inr (.inl (some (19, 0))))), (1, .inl x)] [.inr (.inr (.inl (some (26, r1))))] _ _ _
  refine ww_go 3 (pc' := 9) (L' := [(3, .inl 1), (2, .inr (.inr (.inl (some (26, r1))))), (0, .inr (.inr (.inl (some (19, 0))))), (1, .inl x)]) (st' := []) (m' := m) (o := none) rfl trivial ?_
  refine ww_sub (L := [(0, .inr (.inr (.inl (some (19, 0))))), (1, .inl x), (2, .inr (.inr (.inl (some (26, r1))))), (3, .inl 1)]) ⟨rfl, rfl, rfl, rfl, trivial⟩ rfl rfl ?_
  exact (zs89_l9 hc x hG h0 _) r1 1 rfl (by omega)
set_option maxRecDepth 8000 in
theorem zs81_l4 {sc : xSc} {n : Nat × Nat} {m : wm} {c : Int} (hc : 0 ≤ c ∧ c ≤ 1000000) (x : Int) (hG : zB c m) (h0 : 0 ≤ x ∧ x ≤ 1) : ∀ (d : Nat), ∀ (y : Int) (z : Int), (4 - z).toNat = d → (0 ≤ y ∧ y ≤ 65535 ∧ 0 ≤ z ∧ z ≤ 4) →  wW (zK sc) zM81 4 [(0, .inr (.inr (.inl (some (19, 0))))), (1, .inl x), (2, .inl y), (3, .inl z)] [] n m (wr (fun vv n1 m1 => ∃ r : Int, vv = some (.inl r) ∧ n = n1 ∧ m = m1 ∧ (0 ≤ r ∧ r ≤ 65535))) := by
  intro d
  induction d using Nat.strongRecOn with
  | ind d ih =>
    intro y z hd hi
    refine ww_go 2 (pc' := 6) (L' := [(0, .inr (.inr (.inl (some (19, 0))))), (1, .inl x), (2, .inl y), (3, .inl z)]) (st' := [.inl 4, .inl z]) (m' := m) (o := none) rfl trivial ?_
    refine ww_ic (t := 29) rfl rfl (by omega) (fun (h1 : 4 ≤ z) => ?_) (fun (h1 : ¬ (4 ≤ z)) => ?_)
    · show wW (zK sc) zM81 29 [(0, .inr (.inr (.inl (some (19, 0))))), (1, .inl x), (2, .inl y), (3, .inl z)] [] _ _ _
      refine ww_go 1 (pc' := 30) (L' := [(0, .inr (.inr (.inl (some (19, 0))))), (1, .inl x), (2, .inl y), (3, .inl z)]) (st' := [.inl y]) (m' := m) (o := none) rfl trivial ?_
      exact ww_rI rfl rfl ⟨_, rfl, rfl, rfl, by omega⟩
    · show wW (zK sc) zM81 9 [(0, .inr (.inr (.inl (some (19, 0))))), (1, .inl x), (2, .inl y), (3, .inl z)] [] _ _ _
      refine ww_go 4 (pc' := 13) (L' := [(0, .inr (.inr (.inl (some (19, 0))))), (1, .inl x), (2, .inl y), (3, .inl z)]) (st' := [.inl z, .inl x, .inr (.inr (.inl (some (19, 0)))), .inl y]) (m' := m) (o := none) rfl trivial ?_
      refine ww_call (vs := [.inr (.inr (.inl (some (19, 0)))), .inl x, .inl z]) (r := [.inl y]) (p := 0 < 1) rfl rfl rfl rfl (show 0 < 1 from by omega) (zs87 (c := c) (by omega) x z hG (by omega)) ?_
      rintro _ _ _ ⟨r2, rfl, rfl, rfl, hr3⟩
      show wW (zK sc) zM81 16 [(0, .inr (.inr (.inl (some (19, 0))))), (1, .inl x), (2, .inl y), (3, .inl z)] [.inr (.inr (.inl (some (26, r2)))), .inl y] _ _ _
      refine ww_call (vs := [.inr (.inr (.inl (some (26, r2))))]) (r := [.inl y]) (p := r2 < 10) rfl rfl rfl rfl (show r2 < 10 from by omega) (zs155 (c := c) (by omega) r2 hG (by omega)) ?_
      rintro _ _ _ ⟨r4, rfl, rfl, rfl, hr5⟩
      show wW (zK sc) zM81 19 [(0, .inr (.inr (.inl (some (19, 0))))), (1, .inl x), (2, .inl y), (3, .inl z)] [.inl r4, .inl y] _ _ _
      refine ww_go 4 (pc' := 4) (L' := [(3, .inl (z + 1)), (2, .inl (max y r4)), (0, .inr (.inr (.inl (some (19, 0))))), (1, .inl x)]) (st' := []) (m' := m) (o := some ((-2147483648 ≤ y ∧ y ≤ 2147483647 ∧ -2147483648 ≤ r4 ∧ r4 ≤ 2147483647))) rfl (show (-2147483648 ≤ y ∧ y ≤ 2147483647 ∧ -2147483648 ≤ r4 ∧ r4 ≤ 2147483647) from by omega) ?_
      refine ww_sub (L := [(0, .inr (.inr (.inl (some (19, 0))))), (1, .inl x), (2, .inl (max y r4)), (3, .inl (z + 1))]) ⟨rfl, rfl, rfl, rfl, trivial⟩ rfl rfl ?_
      exact (ih _ (by omega)) (max y r4) (z + 1) rfl (by omega)
set_option maxRecDepth 8000 in
/-- Receiver.greatestOf -/
theorem zs81 {sc : xSc} {n : Nat × Nat} {m : wm} {c : Int} (hc : 0 ≤ c ∧ c ≤ 1000000) (x : Int) (hG : zB c m) (h0 : 0 ≤ x ∧ x ≤ 1) : wX (zK sc) 81 [.inr (.inr (.inl (some (19, 0)))), .inl x] n m (wr (fun vv n1 m1 => ∃ r : Int, vv = some (.inl r) ∧ n = n1 ∧ m = m1 ∧ (0 ≤ r ∧ r ≤ 65535))) := by
  refine wX_of (N := zM81) rfl (Nat.le_of_ble_eq_true rfl) ?_
  show wW (zK sc) zM81 0 [(0, .inr (.inr (.inl (some (19, 0))))), (1, .inl x)] [] n m _
  refine ww_go 4 (pc' := 4) (L' := [(3, .inl 0), (2, .inl 0), (0, .inr (.inr (.inl (some (19, 0))))), (1, .inl x)]) (st' := []) (m' := m) (o := none) rfl trivial ?_
  refine ww_sub (L := [(0, .inr (.inr (.inl (some (19, 0))))), (1, .inl x), (2, .inl 0), (3, .inl 0)]) ⟨rfl, rfl, rfl, rfl, trivial⟩ rfl rfl ?_
  exact (zs81_l4 hc x hG h0 _) 0 0 rfl (by omega)
set_option maxRecDepth 8000 in
/-- Receiver.noteLife -/
theorem zs98 {sc : xSc} {n : Nat × Nat} {m0 : wm} {c : Int} (hc : 0 ≤ c ∧ c ≤ 1000000) (x : Int) (hG : zB c m0) (h0 : 0 ≤ x ∧ x ≤ 255) : wX (zK sc) 98 [.inr (.inr (.inl (some (19, 0)))), .inl x] n m0 (wr (fun vv n1 m1 => vv = none ∧ n = n1 ∧ zB c m1 ∧ zfr (fun k i j => (k = 22) ∨ (k = 23) ∨ (k = 24) ∨ (k = 25) ∨ (k = 19)) m0 m1 ∧ True)) := by
  refine wX_of (N := zM98) rfl (Nat.le_of_ble_eq_true rfl) ?_
  show wW (zK sc) zM98 0 [(0, .inr (.inr (.inl (some (19, 0))))), (1, .inl x)] [] n m0 _
  have hF : zfr (fun k i j => (k = 22) ∨ (k = 23) ∨ (k = 24) ∨ (k = 25) ∨ (k = 19)) m0 m0 := zfr_rf
  have b1 : 0 ≤ m0.1 19 0 5 ∧ m0.1 19 0 5 ≤ 255 := hG.1 19 _ rfl _ _
  refine ww_go 3 (pc' := 5) (L' := [(0, .inr (.inr (.inl (some (19, 0))))), (1, .inl x)]) (st' := [.inl (m0.1 19 0 5), .inl x]) (m' := m0) (o := some ((0 < 1))) rfl (show (0 < 1) from by omega) ?_
  refine ww_ic (t := 20) rfl rfl (by omega) (fun (h2 : x ≤ m0.1 19 0 5) => ?_) (fun (h2 : ¬ (x ≤ m0.1 19 0 5)) => ?_)
  · show wW (zK sc) zM98 20 [(0, .inr (.inr (.inl (some (19, 0))))), (1, .inl x)] [] _ _ _
    exact ww_rV rfl rfl ⟨rfl, rfl, zB_mono hG (by omega), hF, by trivial⟩
  · show wW (zK sc) zM98 8 [(0, .inr (.inr (.inl (some (19, 0))))), (1, .inl x)] [] _ _ _
    refine ww_go 3 (pc' := 13) (L' := [(0, .inr (.inr (.inl (some (19, 0))))), (1, .inl x)]) (st' := []) (m' := wuI m0 19 0 5 x) (o := some ((0 < 1))) rfl (show (0 < 1) from by omega) ?_
    obtain ⟨m3, hm3⟩ : ∃ zq9 : wm, zq9 = wuI m0 19 0 5 x := ⟨_, rfl⟩
    rw [← hm3]
    have hGm3 : zB c m3 := by rw [hm3]; exact zB_wI rfl (show 0 ≤ x ∧ x ≤ 255 from by omega) hG
    have hFm3 : zfr (fun k i j => (k = 22) ∨ (k = 23) ∨ (k = 24) ∨ (k = 25) ∨ (k = 19)) m0 m3 := by rw [hm3]; exact zfr_wI hF (show (19 = 22) ∨ (19 = 23) ∨ (19 = 24) ∨ (19 = 25) ∨ (19 = 19) from Or.inr (Or.inr (Or.inr (Or.inr (rfl)))))
    have s4 : m3.1 19 0 5 = x := by rw [hm3]; exact wuI_self
    refine ww_go 2 (pc' := 17) (L' := [(0, .inr (.inr (.inl (some (19, 0))))), (1, .inl x)]) (st' := [.inr (.inr (.inl (some (22, 0))))]) (m' := m3) (o := some ((0 < 1))) rfl (show (0 < 1) from by omega) ?_
    refine ww_call (vs := [.inr (.inr (.inl (some (22, 0))))]) (r := []) (p := 0 < 1) rfl rfl rfl rfl (show 0 < 1 from by omega) (zs107 (c := c) (by omega) hGm3) ?_
    rintro _ _ m7 ⟨rfl, rfl, hGm7, hEm7, hr6⟩
    have hFm7 : zfr (fun k i j => (k = 22) ∨ (k = 23) ∨ (k = 24) ∨ (k = 25) ∨ (k = 19)) m0 m7 := zfr_tr hFm3 hEm7 (fun k i j z => Or.elim z (fun z => Or.inl z) (fun z => Or.elim z (fun z => Or.inr (Or.inl z)) (fun z => Or.elim z (fun z => Or.inr (Or.inr (Or.inl z))) (fun z => Or.inr (Or.inr (Or.inr (Or.inl z)))))))
    show wW (zK sc) zM98 20 [(0, .inr (.inr (.inl (some (19, 0))))), (1, .inl x)] [] _ _ _
    exact ww_rV rfl rfl ⟨rfl, rfl, zB_mono hGm7 (by omega), hFm7, by trivial⟩
set_option maxRecDepth 8000 in
/-- Receiver.canBe -/
theorem zs76 {sc : xSc} {n : Nat × Nat} {m : wm} {c : Int} (hc : 0 ≤ c ∧ c ≤ 1000000) (s : Nat) (hG : zB c m) (h0 : s < 101) : wX (zK sc) 76 [.inr (.inr (.inl (some (19, 0)))), .inr (.inr (.inl (some (1, s))))] n m (wr (fun vv n1 m1 => ∃ r : Int, vv = some (.inl r) ∧ n = n1 ∧ m = m1 ∧ (r = 0 ∨ (r = 1 ∧ zBat m s 1 ≤ 1 ∧ 1 ≤ 256 * zBat m s 2 + zBat m s 3 ∧ zBat m s 4 ≤ 6 ∧ zBat m s 7 ≤ 104 ∧ (zBat m s 5 = 0 ∨ zBat m s 5 = 1 ∧ 64 < zBat m s 7))))) := by
  refine wX_of (N := zM76) rfl (Nat.le_of_ble_eq_true rfl) ?_
  show wW (zK sc) zM76 0 [(0, .inr (.inr (.inl (some (19, 0))))), (1, .inr (.inr (.inl (some (1, s)))))] [] n m _
  have z1 := zBat_rg hG s 1
  have z2 := zBat_rg hG s 2
  have z3 := zBat_rg hG s 3
  have z4 := zBat_rg hG s 4
  have z5 := zBat_rg hG s 5
  have z6 := zBat_rg hG s 6
  have z7 := zBat_rg hG s 7
  refine ww_go 2 (pc' := 2) (L' := [(0, .inr (.inr (.inl (some (19, 0))))), (1, .inr (.inr (.inl (some (1, s)))))]) (st' := [.inl 1, .inr (.inr (.inl (some (1, s))))]) (m' := m) (o := none) rfl trivial ?_
  refine ww_call (vs := [.inr (.inr (.inl (some (1, s)))), .inl 1]) (r := []) (p := s < 171) rfl rfl rfl rfl (show s < 171 from by omega) (zs28 (c := c) (by omega) 1 s hG (by omega)) ?_
  rintro _ _ _ ⟨r1, rfl, rfl, rfl, hr2⟩
  show wW (zK sc) zM76 5 [(0, .inr (.inr (.inl (some (19, 0))))), (1, .inr (.inr (.inl (some (1, s)))))] [.inl r1] _ _ _
  refine ww_go 4 (pc' := 9) (L' := [(2, .inl r1), (0, .inr (.inr (.inl (some (19, 0))))), (1, .inr (.inr (.inl (some (1, s)))))]) (st' := [.inl 2, .inl 2, .inr (.inr (.inl (some (1, s))))]) (m' := m) (o := none) rfl trivial ?_
  refine ww_call (vs := [.inr (.inr (.inl (some (1, s)))), .inl 2, .inl 2]) (r := []) (p := s < 171) rfl rfl rfl rfl (show s < 171 from by omega) (zs36 (c := c) (by omega) 2 2 s hG (by omega)) ?_
  rintro _ _ _ ⟨r3, rfl, rfl, rfl, hr4⟩
  have z5 := (hr4).1 rfl
  rw [show (2 : Int) + 1 = 3 from rfl] at z5
  show wW (zK sc) zM76 12 [(2, .inl r1), (0, .inr (.inr (.inl (some (19, 0))))), (1, .inr (.inr (.inl (some (1, s)))))] [.inr (.inl r3)] _ _ _
  have t6 := wl2i_rg r3
  refine ww_go 4 (pc' := 17) (L' := [(3, .inl (wl2i r3)), (2, .inl r1), (0, .inr (.inr (.inl (some (19, 0))))), (1, .inr (.inr (.inl (some (1, s)))))]) (st' := [.inl 7, .inr (.inr (.inl (some (1, s))))]) (m' := m) (o := none) rfl trivial ?_
  refine ww_call (vs := [.inr (.inr (.inl (some (1, s)))), .inl 7]) (r := []) (p := s < 171) rfl rfl rfl rfl (show s < 171 from by omega) (zs28 (c := c) (by omega) 7 s hG (by omega)) ?_
  rintro _ _ _ ⟨r7, rfl, rfl, rfl, hr8⟩
  show wW (zK sc) zM76 20 [(3, .inl (wl2i r3)), (2, .inl r1), (0, .inr (.inr (.inl (some (19, 0))))), (1, .inr (.inr (.inl (some (1, s)))))] [.inl r7] _ _ _
  refine ww_go 3 (pc' := 24) (L' := [(4, .inl r7), (3, .inl (wl2i r3)), (2, .inl r1), (0, .inr (.inr (.inl (some (19, 0))))), (1, .inr (.inr (.inl (some (1, s)))))]) (st' := [.inl 5, .inr (.inr (.inl (some (1, s))))]) (m' := m) (o := none) rfl trivial ?_
  refine ww_call (vs := [.inr (.inr (.inl (some (1, s)))), .inl 5]) (r := []) (p := s < 171) rfl rfl rfl rfl (show s < 171 from by omega) (zs28 (c := c) (by omega) 5 s hG (by omega)) ?_
  rintro _ _ _ ⟨r9, rfl, rfl, rfl, hr10⟩
  show wW (zK sc) zM76 27 [(4, .inl r7), (3, .inl (wl2i r3)), (2, .inl r1), (0, .inr (.inr (.inl (some (19, 0))))), (1, .inr (.inr (.inl (some (1, s)))))] [.inl r9] _ _ _
  refine ww_go 3 (pc' := 31) (L' := [(5, .inl r9), (4, .inl r7), (3, .inl (wl2i r3)), (2, .inl r1), (0, .inr (.inr (.inl (some (19, 0))))), (1, .inr (.inr (.inl (some (1, s)))))]) (st' := [.inl 2, .inl r1]) (m' := m) (o := none) rfl trivial ?_
  refine ww_ic (t := 97) rfl rfl (by omega) (fun (h11 : 2 ≤ r1) => ?_) (fun (h11 : ¬ (2 ≤ r1)) => ?_)
  · show wW (zK sc) zM76 97 [(5, .inl r9), (4, .inl r7), (3, .inl (wl2i r3)), (2, .inl r1), (0, .inr (.inr (.inl (some (19, 0))))), (1, .inr (.inr (.inl (some (1, s)))))] [] _ _ _
    refine ww_go 1 (pc' := 98) (L' := [(5, .inl r9), (4, .inl r7), (3, .inl (wl2i r3)), (2, .inl r1), (0, .inr (.inr (.inl (some (19, 0))))), (1, .inr (.inr (.inl (some (1, s)))))]) (st' := [.inl 0]) (m' := m) (o := none) rfl trivial ?_
    exact ww_rB rfl rfl (by omega) ⟨_, rfl, rfl, rfl, by omega⟩
  · show wW (zK sc) zM76 34 [(5, .inl r9), (4, .inl r7), (3, .inl (wl2i r3)), (2, .inl r1), (0, .inr (.inr (.inl (some (19, 0))))), (1, .inr (.inr (.inl (some (1, s)))))] [] _ _ _
    refine ww_go 1 (pc' := 35) (L' := [(5, .inl r9), (4, .inl r7), (3, .inl (wl2i r3)), (2, .inl r1), (0, .inr (.inr (.inl (some (19, 0))))), (1, .inr (.inr (.inl (some (1, s)))))]) (st' := [.inl (wl2i r3)]) (m' := m) (o := none) rfl trivial ?_
    refine ww_if (t := 97) rfl rfl (by omega) (fun (h12 : wl2i r3 = 0) => ?_) (fun (h12 : ¬ (wl2i r3 = 0)) => ?_)
    · show wW (zK sc) zM76 97 [(5, .inl r9), (4, .inl r7), (3, .inl (wl2i r3)), (2, .inl r1), (0, .inr (.inr (.inl (some (19, 0))))), (1, .inr (.inr (.inl (some (1, s)))))] [] _ _ _
      refine ww_go 1 (pc' := 98) (L' := [(5, .inl r9), (4, .inl r7), (3, .inl (wl2i r3)), (2, .inl r1), (0, .inr (.inr (.inl (some (19, 0))))), (1, .inr (.inr (.inl (some (1, s)))))]) (st' := [.inl 0]) (m' := m) (o := none) rfl trivial ?_
      exact ww_rB rfl rfl (by omega) ⟨_, rfl, rfl, rfl, by omega⟩
    · show wW (zK sc) zM76 38 [(5, .inl r9), (4, .inl r7), (3, .inl (wl2i r3)), (2, .inl r1), (0, .inr (.inr (.inl (some (19, 0))))), (1, .inr (.inr (.inl (some (1, s)))))] [] _ _ _
      refine ww_go 2 (pc' := 40) (L' := [(5, .inl r9), (4, .inl r7), (3, .inl (wl2i r3)), (2, .inl r1), (0, .inr (.inr (.inl (some (19, 0))))), (1, .inr (.inr (.inl (some (1, s)))))]) (st' := [.inl 4, .inr (.inr (.inl (some (1, s))))]) (m' := m) (o := none) rfl trivial ?_
      refine ww_call (vs := [.inr (.inr (.inl (some (1, s)))), .inl 4]) (r := []) (p := s < 171) rfl rfl rfl rfl (show s < 171 from by omega) (zs28 (c := c) (by omega) 4 s hG (by omega)) ?_
      rintro _ _ _ ⟨r13, rfl, rfl, rfl, hr14⟩
      show wW (zK sc) zM76 43 [(5, .inl r9), (4, .inl r7), (3, .inl (wl2i r3)), (2, .inl r1), (0, .inr (.inr (.inl (some (19, 0))))), (1, .inr (.inr (.inl (some (1, s)))))] [.inl r13] _ _ _
      refine ww_go 1 (pc' := 45) (L' := [(5, .inl r9), (4, .inl r7), (3, .inl (wl2i r3)), (2, .inl r1), (0, .inr (.inr (.inl (some (19, 0))))), (1, .inr (.inr (.inl (some (1, s)))))]) (st' := [.inl 7, .inl r13]) (m' := m) (o := none) rfl trivial ?_
      refine ww_ic (t := 97) rfl rfl (by omega) (fun (h15 : 7 ≤ r13) => ?_) (fun (h15 : ¬ (7 ≤ r13)) => ?_)
      · show wW (zK sc) zM76 97 [(5, .inl r9), (4, .inl r7), (3, .inl (wl2i r3)), (2, .inl r1), (0, .inr (.inr (.inl (some (19, 0))))), (1, .inr (.inr (.inl (some (1, s)))))] [] _ _ _
        refine ww_go 1 (pc' := 98) (L' := [(5, .inl r9), (4, .inl r7), (3, .inl (wl2i r3)), (2, .inl r1), (0, .inr (.inr (.inl (some (19, 0))))), (1, .inr (.inr (.inl (some (1, s)))))]) (st' := [.inl 0]) (m' := m) (o := none) rfl trivial ?_
        exact ww_rB rfl rfl (by omega) ⟨_, rfl, rfl, rfl, by omega⟩
      · show wW (zK sc) zM76 48 [(5, .inl r9), (4, .inl r7), (3, .inl (wl2i r3)), (2, .inl r1), (0, .inr (.inr (.inl (some (19, 0))))), (1, .inr (.inr (.inl (some (1, s)))))] [] _ _ _
        refine ww_go 2 (pc' := 52) (L' := [(5, .inl r9), (4, .inl r7), (3, .inl (wl2i r3)), (2, .inl r1), (0, .inr (.inr (.inl (some (19, 0))))), (1, .inr (.inr (.inl (some (1, s)))))]) (st' := [.inl 104, .inl r7]) (m' := m) (o := none) rfl trivial ?_
        refine ww_ic (t := 97) rfl rfl (by omega) (fun (h16 : 104 < r7) => ?_) (fun (h16 : ¬ (104 < r7)) => ?_)
        · show wW (zK sc) zM76 97 [(5, .inl r9), (4, .inl r7), (3, .inl (wl2i r3)), (2, .inl r1), (0, .inr (.inr (.inl (some (19, 0))))), (1, .inr (.inr (.inl (some (1, s)))))] [] _ _ _
          refine ww_go 1 (pc' := 98) (L' := [(5, .inl r9), (4, .inl r7), (3, .inl (wl2i r3)), (2, .inl r1), (0, .inr (.inr (.inl (some (19, 0))))), (1, .inr (.inr (.inl (some (1, s)))))]) (st' := [.inl 0]) (m' := m) (o := none) rfl trivial ?_
          exact ww_rB rfl rfl (by omega) ⟨_, rfl, rfl, rfl, by omega⟩
        · show wW (zK sc) zM76 55 [(5, .inl r9), (4, .inl r7), (3, .inl (wl2i r3)), (2, .inl r1), (0, .inr (.inr (.inl (some (19, 0))))), (1, .inr (.inr (.inl (some (1, s)))))] [] _ _ _
          refine ww_go 2 (pc' := 59) (L' := [(5, .inl r9), (4, .inl r7), (3, .inl (wl2i r3)), (2, .inl r1), (0, .inr (.inr (.inl (some (19, 0))))), (1, .inr (.inr (.inl (some (1, s)))))]) (st' := [.inl r7, .inl r9]) (m' := m) (o := none) rfl trivial ?_
          refine ww_call (vs := [.inl r7]) (r := [.inl r9]) (p := True) rfl rfl rfl rfl trivial (zs42 r7 (by omega)) ?_
          rintro _ _ _ ⟨r17, rfl, rfl, rfl, hr18⟩
          show wW (zK sc) zM76 62 [(5, .inl r9), (4, .inl r7), (3, .inl (wl2i r3)), (2, .inl r1), (0, .inr (.inr (.inl (some (19, 0))))), (1, .inr (.inr (.inl (some (1, s)))))] [.inl r17, .inl r9] _ _ _
          refine ww_ic (t := 97) rfl rfl (by omega) (fun (h19 : r17 ≤ r9) => ?_) (fun (h19 : ¬ (r17 ≤ r9)) => ?_)
          · show wW (zK sc) zM76 97 [(5, .inl r9), (4, .inl r7), (3, .inl (wl2i r3)), (2, .inl r1), (0, .inr (.inr (.inl (some (19, 0))))), (1, .inr (.inr (.inl (some (1, s)))))] [] _ _ _
            refine ww_go 1 (pc' := 98) (L' := [(5, .inl r9), (4, .inl r7), (3, .inl (wl2i r3)), (2, .inl r1), (0, .inr (.inr (.inl (some (19, 0))))), (1, .inr (.inr (.inl (some (1, s)))))]) (st' := [.inl 0]) (m' := m) (o := none) rfl trivial ?_
            exact ww_rB rfl rfl (by omega) ⟨_, rfl, rfl, rfl, by omega⟩
          · show wW (zK sc) zM76 65 [(5, .inl r9), (4, .inl r7), (3, .inl (wl2i r3)), (2, .inl r1), (0, .inr (.inr (.inl (some (19, 0))))), (1, .inr (.inr (.inl (some (1, s)))))] [] _ _ _
            refine ww_go 2 (pc' := 68) (L' := [(5, .inl r9), (4, .inl r7), (3, .inl (wl2i r3)), (2, .inl r1), (0, .inr (.inr (.inl (some (19, 0))))), (1, .inr (.inr (.inl (some (1, s)))))]) (st' := [.inl 6, .inr (.inr (.inl (some (1, s))))]) (m' := m) (o := none) rfl trivial ?_
            refine ww_call (vs := [.inr (.inr (.inl (some (1, s)))), .inl 6]) (r := []) (p := s < 171) rfl rfl rfl rfl (show s < 171 from by omega) (zs28 (c := c) (by omega) 6 s hG (by omega)) ?_
            rintro _ _ _ ⟨r20, rfl, rfl, rfl, hr21⟩
            show wW (zK sc) zM76 71 [(5, .inl r9), (4, .inl r7), (3, .inl (wl2i r3)), (2, .inl r1), (0, .inr (.inr (.inl (some (19, 0))))), (1, .inr (.inr (.inl (some (1, s)))))] [.inl r20] _ _ _
            refine ww_go 2 (pc' := 75) (L' := [(5, .inl r9), (4, .inl r7), (3, .inl (wl2i r3)), (2, .inl r1), (0, .inr (.inr (.inl (some (19, 0))))), (1, .inr (.inr (.inl (some (1, s)))))]) (st' := [.inl r9, .inl r7, .inl r20]) (m' := m) (o := none) rfl trivial ?_
            refine ww_call (vs := [.inl r7, .inl r9]) (r := [.inl r20]) (p := True) rfl rfl rfl rfl trivial (zs44 r7 r9 (by omega)) ?_
            rintro _ _ _ ⟨r22, rfl, rfl, rfl, hr23⟩
            show wW (zK sc) zM76 78 [(5, .inl r9), (4, .inl r7), (3, .inl (wl2i r3)), (2, .inl r1), (0, .inr (.inr (.inl (some (19, 0))))), (1, .inr (.inr (.inl (some (1, s)))))] [.inl r22, .inl r20] _ _ _
            refine ww_ic (t := 97) rfl rfl (by omega) (fun (h24 : r22 ≤ r20) => ?_) (fun (h24 : ¬ (r22 ≤ r20)) => ?_)
            · show wW (zK sc) zM76 97 [(5, .inl r9), (4, .inl r7), (3, .inl (wl2i r3)), (2, .inl r1), (0, .inr (.inr (.inl (some (19, 0))))), (1, .inr (.inr (.inl (some (1, s)))))] [] _ _ _
              refine ww_go 1 (pc' := 98) (L' := [(5, .inl r9), (4, .inl r7), (3, .inl (wl2i r3)), (2, .inl r1), (0, .inr (.inr (.inl (some (19, 0))))), (1, .inr (.inr (.inl (some (1, s)))))]) (st' := [.inl 0]) (m' := m) (o := none) rfl trivial ?_
              exact ww_rB rfl rfl (by omega) ⟨_, rfl, rfl, rfl, by omega⟩
            · show wW (zK sc) zM76 81 [(5, .inl r9), (4, .inl r7), (3, .inl (wl2i r3)), (2, .inl r1), (0, .inr (.inr (.inl (some (19, 0))))), (1, .inr (.inr (.inl (some (1, s)))))] [] _ _ _
              refine ww_go 3 (pc' := 84) (L' := [(5, .inl r9), (4, .inl r7), (3, .inl (wl2i r3)), (2, .inl r1), (0, .inr (.inr (.inl (some (19, 0))))), (1, .inr (.inr (.inl (some (1, s)))))]) (st' := [.inl r1, .inr (.inr (.inl (some (19, 0)))), .inl (wl2i r3)]) (m' := m) (o := none) rfl trivial ?_
              refine ww_call (vs := [.inr (.inr (.inl (some (19, 0)))), .inl r1]) (r := [.inl (wl2i r3)]) (p := 0 < 1) rfl rfl rfl rfl (show 0 < 1 from by omega) (zs89 (c := c) (by omega) r1 hG (by omega)) ?_
              rintro _ _ _ ⟨r25, rfl, rfl, rfl, hr26⟩
              show wW (zK sc) zM76 87 [(5, .inl r9), (4, .inl r7), (3, .inl (wl2i r3)), (2, .inl r1), (0, .inr (.inr (.inl (some (19, 0))))), (1, .inr (.inr (.inl (some (1, s)))))] [.inr (.inr (.inl (some (26, r25)))), .inl (wl2i r3)] _ _ _
              refine ww_call (vs := [.inr (.inr (.inl (some (26, r25))))]) (r := [.inl (wl2i r3)]) (p := r25 < 10) rfl rfl rfl rfl (show r25 < 10 from by omega) (zs155 (c := c) (by omega) r25 hG (by omega)) ?_
              rintro _ _ _ ⟨r27, rfl, rfl, rfl, hr28⟩
              show wW (zK sc) zM76 90 [(5, .inl r9), (4, .inl r7), (3, .inl (wl2i r3)), (2, .inl r1), (0, .inr (.inr (.inl (some (19, 0))))), (1, .inr (.inr (.inl (some (1, s)))))] [.inl r27, .inl (wl2i r3)] _ _ _
              refine ww_ic (t := 97) rfl rfl (by omega) (fun (h29 : wl2i r3 < r27) => ?_) (fun (h29 : ¬ (wl2i r3 < r27)) => ?_)
              · show wW (zK sc) zM76 97 [(5, .inl r9), (4, .inl r7), (3, .inl (wl2i r3)), (2, .inl r1), (0, .inr (.inr (.inl (some (19, 0))))), (1, .inr (.inr (.inl (some (1, s)))))] [] _ _ _
                refine ww_go 1 (pc' := 98) (L' := [(5, .inl r9), (4, .inl r7), (3, .inl (wl2i r3)), (2, .inl r1), (0, .inr (.inr (.inl (some (19, 0))))), (1, .inr (.inr (.inl (some (1, s)))))]) (st' := [.inl 0]) (m' := m) (o := none) rfl trivial ?_
                exact ww_rB rfl rfl (by omega) ⟨_, rfl, rfl, rfl, by omega⟩
              · show wW (zK sc) zM76 93 [(5, .inl r9), (4, .inl r7), (3, .inl (wl2i r3)), (2, .inl r1), (0, .inr (.inr (.inl (some (19, 0))))), (1, .inr (.inr (.inl (some (1, s)))))] [] _ _ _
                refine ww_go 2 (pc' := 98) (L' := [(5, .inl r9), (4, .inl r7), (3, .inl (wl2i r3)), (2, .inl r1), (0, .inr (.inr (.inl (some (19, 0))))), (1, .inr (.inr (.inl (some (1, s)))))]) (st' := [.inl 1]) (m' := m) (o := none) rfl trivial ?_
                exact ww_rB rfl rfl (by omega) ⟨_, rfl, rfl, rfl, by omega⟩
set_option maxRecDepth 8000 in
/-- Receiver.learn -/
theorem zs88 {sc : xSc} {n : Nat × Nat} {m0 : wm} {c : Int} (hc : 0 ≤ c ∧ c ≤ 1000000) (x : Int) (y : Int) (hG : zB c m0) (h0 : 0 ≤ x ∧ x ≤ 1 ∧ 1 ≤ y ∧ y ≤ 65535) : wX (zK sc) 88 [.inr (.inr (.inl (some (19, 0)))), .inl x, .inl y] n m0 (wr (fun vv n1 m1 => ∃ r : Nat, vv = some (.inr (.inr (.inl (some (26, r))))) ∧ n = n1 ∧ zB c m1 ∧ zfr (fun k i j => (k = 22) ∨ (k = 23) ∨ (k = 24) ∨ (k = 25) ∨ (k = 26 ∧ i < 10) ∨ (k = 28 ∧ i < 10) ∨ (k = 29 ∧ i < 10) ∨ (k = 1 ∧ 101 ≤ i ∧ i < 171 ∧ j = 1)) m0 m1 ∧ (r < 8))) := by
  refine wX_of (N := zM88) rfl (Nat.le_of_ble_eq_true rfl) ?_
  show wW (zK sc) zM88 0 [(0, .inr (.inr (.inl (some (19, 0))))), (1, .inl x), (2, .inl y)] [] n m0 _
  have hF : zfr (fun k i j => (k = 22) ∨ (k = 23) ∨ (k = 24) ∨ (k = 25) ∨ (k = 26 ∧ i < 10) ∨ (k = 28 ∧ i < 10) ∨ (k = 29 ∧ i < 10) ∨ (k = 1 ∧ 101 ≤ i ∧ i < 171 ∧ j = 1)) m0 m0 := zfr_rf
  refine ww_go 3 (pc' := 3) (L' := [(0, .inr (.inr (.inl (some (19, 0))))), (1, .inl x), (2, .inl y)]) (st' := [.inl y, .inl x, .inr (.inr (.inl (some (19, 0))))]) (m' := m0) (o := none) rfl trivial ?_
  refine ww_call (vs := [.inr (.inr (.inl (some (19, 0)))), .inl x, .inl y]) (r := []) (p := 0 < 1) rfl rfl rfl rfl (show 0 < 1 from by omega) (zs79 (c := c) (by omega) x y hG (by omega)) ?_
  rintro _ _ _ ⟨r1, rfl, rfl, rfl, hr2⟩
  rcases hr2 with rfl | ⟨e3, rfl, hr4⟩
  · show wW (zK sc) zM88 6 [(0, .inr (.inr (.inl (some (19, 0))))), (1, .inl x), (2, .inl y)] [.inr (.inr (.inl none))] _ _ _
    refine ww_go 2 (pc' := 8) (L' := [(3, .inr (.inr (.inl none))), (0, .inr (.inr (.inl (some (19, 0))))), (1, .inl x), (2, .inl y)]) (st' := [.inr (.inr (.inl none))]) (m' := m0) (o := none) rfl trivial ?_
    refine ww_nu (t := 13) rfl rfl (fun h => ?_) (fun zz9 h => by cases h)
    show wW (zK sc) zM88 13 [(3, .inr (.inr (.inl none))), (0, .inr (.inr (.inl (some (19, 0))))), (1, .inl x), (2, .inl y)] [] _ _ _
    refine ww_go 2 (pc' := 15) (L' := [(3, .inr (.inr (.inl none))), (0, .inr (.inr (.inl (some (19, 0))))), (1, .inl x), (2, .inl y)]) (st' := [.inl x, .inr (.inr (.inl (some (19, 0))))]) (m' := m0) (o := none) rfl trivial ?_
    refine ww_call (vs := [.inr (.inr (.inl (some (19, 0)))), .inl x]) (r := []) (p := 0 < 1) rfl rfl rfl rfl (show 0 < 1 from by omega) (zs89 (c := c) (by omega) x hG (by omega)) ?_
    rintro _ _ _ ⟨r5, rfl, rfl, rfl, hr6⟩
    show wW (zK sc) zM88 18 [(3, .inr (.inr (.inl none))), (0, .inr (.inr (.inl (some (19, 0))))), (1, .inl x), (2, .inl y)] [.inr (.inr (.inl (some (26, r5))))] _ _ _
    refine ww_go 3 (pc' := 23) (L' := [(4, .inr (.inr (.inl (some (26, r5))))), (3, .inr (.inr (.inl none))), (0, .inr (.inr (.inl (some (19, 0))))), (1, .inl x), (2, .inl y)]) (st' := [.inr (.inr (.inl (some (26, r5)))), .inl x]) (m' := m0) (o := none) rfl trivial ?_
    refine ww_call (vs := [.inr (.inr (.inl (some (26, r5))))]) (r := [.inl x]) (p := r5 < 10) rfl rfl rfl rfl (show r5 < 10 from by omega) (zs155 (c := c) (by omega) r5 hG (by omega)) ?_
    rintro _ _ _ ⟨r7, rfl, rfl, rfl, hr8⟩
    show wW (zK sc) zM88 26 [(4, .inr (.inr (.inl (some (26, r5))))), (3, .inr (.inr (.inl none))), (0, .inr (.inr (.inl (some (19, 0))))), (1, .inl x), (2, .inl y)] [.inl r7, .inl x] _ _ _
    refine ww_call (vs := [.inl x, .inl r7]) (r := []) (p := True) rfl rfl rfl rfl trivial (zs113 x r7 (by omega)) ?_
    rintro _ _ _ ⟨r9, rfl, rfl, rfl, hr10⟩
    show wW (zK sc) zM88 29 [(4, .inr (.inr (.inl (some (26, r5))))), (3, .inr (.inr (.inl none))), (0, .inr (.inr (.inl (some (19, 0))))), (1, .inl x), (2, .inl y)] [.inl r9] _ _ _
    refine ww_go 4 (pc' := 37) (L' := [(5, .inl r9), (4, .inr (.inr (.inl (some (26, r5))))), (3, .inr (.inr (.inl none))), (0, .inr (.inr (.inl (some (19, 0))))), (1, .inl x), (2, .inl y)]) (st' := [.inl r9, .inr (.inr (.inl (some (22, 0))))]) (m' := m0) (o := some ((0 < 1))) rfl (show (0 < 1) from by omega) ?_
    refine ww_call (vs := [.inl r9]) (r := [.inr (.inr (.inl (some (22, 0))))]) (p := True) rfl rfl rfl rfl trivial (zs108 r9 (by omega)) ?_
    rintro _ _ _ ⟨r11, rfl, rfl, rfl, hr12⟩
    show wW (zK sc) zM88 40 [(5, .inl r9), (4, .inr (.inr (.inl (some (26, r5))))), (3, .inr (.inr (.inl none))), (0, .inr (.inr (.inl (some (19, 0))))), (1, .inl x), (2, .inl y)] [.inl r11, .inr (.inr (.inl (some (22, 0))))] _ _ _
    refine ww_go 1 (pc' := 42) (L' := [(5, .inl r9), (4, .inr (.inr (.inl (some (26, r5))))), (3, .inr (.inr (.inl none))), (0, .inr (.inr (.inl (some (19, 0))))), (1, .inl x), (2, .inl y)]) (st' := [.inl r9, .inl r11, .inr (.inr (.inl (some (22, 0))))]) (m' := m0) (o := none) rfl trivial ?_
    refine ww_call (vs := [.inl r9]) (r := [.inl r11, .inr (.inr (.inl (some (22, 0))))]) (p := True) rfl rfl rfl rfl trivial (zs112 r9 (by omega)) ?_
    rintro _ _ _ ⟨r13, rfl, rfl, rfl, hr14⟩
    show wW (zK sc) zM88 45 [(5, .inl r9), (4, .inr (.inr (.inl (some (26, r5))))), (3, .inr (.inr (.inl none))), (0, .inr (.inr (.inl (some (19, 0))))), (1, .inl x), (2, .inl y)] [.inl r13, .inl r11, .inr (.inr (.inl (some (22, 0))))] _ _ _
    refine ww_call (vs := [.inr (.inr (.inl (some (22, 0)))), .inl r11, .inl r13]) (r := []) (p := 0 < 1) rfl rfl rfl rfl (show 0 < 1 from by omega) (zs106 (c := c) (by omega) r11 r13 hG (by omega)) ?_
    rintro _ _ m17 ⟨rfl, rfl, hGm17, hEm17, hr16⟩
    have hFm17 : zfr (fun k i j => (k = 22) ∨ (k = 23) ∨ (k = 24) ∨ (k = 25) ∨ (k = 26 ∧ i < 10) ∨ (k = 28 ∧ i < 10) ∨ (k = 29 ∧ i < 10) ∨ (k = 1 ∧ 101 ≤ i ∧ i < 171 ∧ j = 1)) m0 m17 := zfr_tr hF hEm17 (fun k i j z => Or.elim z (fun z => Or.inl z) (fun z => Or.elim z (fun z => Or.inr (Or.inl z)) (fun z => Or.elim z (fun z => Or.inr (Or.inr (Or.inl z))) (fun z => Or.inr (Or.inr (Or.inr (Or.inl z)))))))
    show wW (zK sc) zM88 48 [(5, .inl r9), (4, .inr (.inr (.inl (some (26, r5))))), (3, .inr (.inr (.inl none))), (0, .inr (.inr (.inl (some (19, 0))))), (1, .inl x), (2, .inl y)] [] _ _ _
    refine ww_go 2 (pc' := 51) (L' := [(5, .inl r9), (4, .inr (.inr (.inl (some (26, r5))))), (3, .inr (.inr (.inl none))), (0, .inr (.inr (.inl (some (19, 0))))), (1, .inl x), (2, .inl y)]) (st' := [.inl y, .inr (.inr (.inl (some (26, r5))))]) (m' := m17) (o := none) rfl trivial ?_
    refine ww_call (vs := [.inr (.inr (.inl (some (26, r5)))), .inl y]) (r := []) (p := r5 < 10) rfl rfl rfl rfl (show r5 < 10 from by omega) (zs138 (c := c) (by omega) y r5 hGm17 (by omega)) ?_
    rintro _ _ m20 ⟨rfl, rfl, hGm20, hEm20, hr19⟩
    have hFm20 : zfr (fun k i j => (k = 22) ∨ (k = 23) ∨ (k = 24) ∨ (k = 25) ∨ (k = 26 ∧ i < 10) ∨ (k = 28 ∧ i < 10) ∨ (k = 29 ∧ i < 10) ∨ (k = 1 ∧ 101 ≤ i ∧ i < 171 ∧ j = 1)) m0 m20 := zfr_tr hFm17 hEm20 (fun k i j z => Or.elim z (fun z => Or.inr (Or.inr (Or.inr (Or.inr (Or.inr (Or.inr (Or.inr (z)))))))) (fun z => Or.elim z (fun z => (show (k = 22) ∨ (k = 23) ∨ (k = 24) ∨ (k = 25) ∨ (k = 26 ∧ i < 10) ∨ (k = 28 ∧ i < 10) ∨ (k = 29 ∧ i < 10) ∨ (k = 1 ∧ 101 ≤ i ∧ i < 171 ∧ j = 1) from Or.inr (Or.inr (Or.inr (Or.inr (Or.inl ((show k = 26 ∧ i < 10 from by omega)))))))) (fun z => Or.elim z (fun z => (show (k = 22) ∨ (k = 23) ∨ (k = 24) ∨ (k = 25) ∨ (k = 26 ∧ i < 10) ∨ (k = 28 ∧ i < 10) ∨ (k = 29 ∧ i < 10) ∨ (k = 1 ∧ 101 ≤ i ∧ i < 171 ∧ j = 1) from Or.inr (Or.inr (Or.inr (Or.inr (Or.inr (Or.inl ((show k = 28 ∧ i < 10 from by omega))))))))) (fun z => (show (k = 22) ∨ (k = 23) ∨ (k = 24) ∨ (k = 25) ∨ (k = 26 ∧ i < 10) ∨ (k = 28 ∧ i < 10) ∨ (k = 29 ∧ i < 10) ∨ (k = 1 ∧ 101 ≤ i ∧ i < 171 ∧ j = 1) from Or.inr (Or.inr (Or.inr (Or.inr (Or.inr (Or.inr (Or.inl ((show k = 29 ∧ i < 10 from by omega)))))))))))))
    show wW (zK sc) zM88 54 [(5, .inl r9), (4, .inr (.inr (.inl (some (26, r5))))), (3, .inr (.inr (.inl none))), (0, .inr (.inr (.inl (some (19, 0))))), (1, .inl x), (2, .inl y)] [] _ _ _
    refine ww_go 1 (pc' := 56) (L' := [(5, .inl r9), (4, .inr (.inr (.inl (some (26, r5))))), (3, .inr (.inr (.inl none))), (0, .inr (.inr (.inl (some (19, 0))))), (1, .inl x), (2, .inl y)]) (st' := [.inr (.inr (.inl (some (26, r5))))]) (m' := m20) (o := none) rfl trivial ?_
    exact ww_rA rfl rfl ⟨_, rfl, rfl, zB_mono hGm20 (by omega), hFm20, by omega⟩
  · show wW (zK sc) zM88 6 [(0, .inr (.inr (.inl (some (19, 0))))), (1, .inl x), (2, .inl y)] [.inr (.inr (.inl (some (26, e3))))] _ _ _
    refine ww_go 2 (pc' := 8) (L' := [(3, .inr (.inr (.inl (some (26, e3))))), (0, .inr (.inr (.inl (some (19, 0))))), (1, .inl x), (2, .inl y)]) (st' := [.inr (.inr (.inl (some (26, e3))))]) (m' := m0) (o := none) rfl trivial ?_
    refine ww_nu (t := 13) rfl rfl (fun h => by cases h) (fun zz9 h => ?_)
    show wW (zK sc) zM88 11 [(3, .inr (.inr (.inl (some (26, e3))))), (0, .inr (.inr (.inl (some (19, 0))))), (1, .inl x), (2, .inl y)] [] _ _ _
    refine ww_go 1 (pc' := 12) (L' := [(3, .inr (.inr (.inl (some (26, e3))))), (0, .inr (.inr (.inl (some (19, 0))))), (1, .inl x), (2, .inl y)]) (st' := [.inr (.inr (.inl (some (26, e3))))]) (m' := m0) (o := none) rfl trivial ?_
    exact ww_rA rfl rfl ⟨_, rfl, rfl, zB_mono hG (by omega), hF, by omega⟩
set_option maxRecDepth 8000 in
/-- Receiver.hasOtherSize -/
theorem zs82 {sc : xSc} {n : Nat × Nat} {m : wm} {c : Int} (hc : 0 ≤ c ∧ c ≤ 1000000) (x : Int) (t : Nat) (s : Nat) (hG : zB c m) (h0 : t < 10 ∧ s < 101 ∧ 0 ≤ x ∧ x ≤ 131071 ∧ zBat m s 4 ≤ 6) : wX (zK sc) 82 [.inr (.inr (.inl (some (19, 0)))), .inr (.inr (.inl (some (26, t)))), .inl x, .inr (.inr (.inl (some (1, s))))] n m (wr (fun vv n1 m1 => ∃ r : Int, vv = some (.inl r) ∧ n = n1 ∧ m = m1 ∧ (0 ≤ r ∧ r ≤ 1))) := by
  refine wX_of (N := zM82) rfl (Nat.le_of_ble_eq_true rfl) ?_
  show wW (zK sc) zM82 0 [(0, .inr (.inr (.inl (some (19, 0))))), (1, .inr (.inr (.inl (some (26, t))))), (2, .inl x), (3, .inr (.inr (.inl (some (1, s)))))] [] n m _
  have zl9 := zlim_le (101 + 7 * t + (zBat m s 4).toNat)
  refine ww_go 2 (pc' := 2) (L' := [(0, .inr (.inr (.inl (some (19, 0))))), (1, .inr (.inr (.inl (some (26, t))))), (2, .inl x), (3, .inr (.inr (.inl (some (1, s)))))]) (st' := [.inl 4, .inr (.inr (.inl (some (1, s))))]) (m' := m) (o := none) rfl trivial ?_
  refine ww_call (vs := [.inr (.inr (.inl (some (1, s)))), .inl 4]) (r := []) (p := s < 171) rfl rfl rfl rfl (show s < 171 from by omega) (zs28 (c := c) (by omega) 4 s hG (by omega)) ?_
  rintro _ _ _ ⟨r1, rfl, rfl, rfl, hr2⟩
  show wW (zK sc) zM82 5 [(0, .inr (.inr (.inl (some (19, 0))))), (1, .inr (.inr (.inl (some (26, t))))), (2, .inl x), (3, .inr (.inr (.inl (some (1, s)))))] [.inl r1] _ _ _
  refine ww_go 3 (pc' := 10) (L' := [(4, .inl r1), (0, .inr (.inr (.inl (some (19, 0))))), (1, .inr (.inr (.inl (some (26, t))))), (2, .inl x), (3, .inr (.inr (.inl (some (1, s)))))]) (st' := [.inl r1, .inr (.inr (.inl (some (26, t))))]) (m' := m) (o := none) rfl trivial ?_
  refine ww_call (vs := [.inr (.inr (.inl (some (26, t)))), .inl r1]) (r := []) (p := t < 10) rfl rfl rfl rfl (show t < 10 from by omega) (zs142 (c := c) (by omega) r1 t hG (by omega)) ?_
  rintro _ _ _ ⟨r3, rfl, rfl, rfl, hr4⟩
  show wW (zK sc) zM82 13 [(4, .inl r1), (0, .inr (.inr (.inl (some (19, 0))))), (1, .inr (.inr (.inl (some (26, t))))), (2, .inl x), (3, .inr (.inr (.inl (some (1, s)))))] [.inl r3] _ _ _
  refine ww_if (t := 40) rfl rfl (by omega) (fun (h5 : r3 ≠ 0) => ?_) (fun (h5 : ¬ (r3 ≠ 0)) => ?_)
  · show wW (zK sc) zM82 40 [(4, .inl r1), (0, .inr (.inr (.inl (some (19, 0))))), (1, .inr (.inr (.inl (some (26, t))))), (2, .inl x), (3, .inr (.inr (.inl (some (1, s)))))] [] _ _ _
    refine ww_go 4 (pc' := 49) (L' := [(5, .inl 1), (4, .inl r1), (0, .inr (.inr (.inl (some (19, 0))))), (1, .inr (.inr (.inl (some (26, t))))), (2, .inl x), (3, .inr (.inr (.inl (some (1, s)))))]) (st' := [.inl 1]) (m' := m) (o := none) rfl trivial ?_
    refine ww_if (t := 74) rfl rfl (by decide) (fun (h6 : (1 : Int) = 0) => absurd h6 (by decide)) (fun (h6 : ¬ ((1 : Int) = 0)) => ?_)
    show wW (zK sc) zM82 52 [(5, .inl 1), (4, .inl r1), (0, .inr (.inr (.inl (some (19, 0))))), (1, .inr (.inr (.inl (some (26, t))))), (2, .inl x), (3, .inr (.inr (.inl (some (1, s)))))] [] _ _ _
    refine ww_go 2 (pc' := 55) (L' := [(5, .inl 1), (4, .inl r1), (0, .inr (.inr (.inl (some (19, 0))))), (1, .inr (.inr (.inl (some (26, t))))), (2, .inl x), (3, .inr (.inr (.inl (some (1, s)))))]) (st' := [.inl r1, .inr (.inr (.inl (some (26, t))))]) (m' := m) (o := none) rfl trivial ?_
    refine ww_call (vs := [.inr (.inr (.inl (some (26, t)))), .inl r1]) (r := []) (p := t < 10) rfl rfl rfl rfl (show t < 10 from by omega) (zs152 (c := c) (by omega) r1 t hG (by omega)) ?_
    rintro _ _ _ ⟨r7, rfl, rfl, rfl, hr8⟩
    show wW (zK sc) zM82 58 [(5, .inl 1), (4, .inl r1), (0, .inr (.inr (.inl (some (19, 0))))), (1, .inr (.inr (.inl (some (26, t))))), (2, .inl x), (3, .inr (.inr (.inl (some (1, s)))))] [.inr (.inr (.inl (some (1, r7))))] _ _ _
    refine ww_call (vs := [.inr (.inr (.inl (some (1, r7))))]) (r := []) (p := r7 < 171) rfl rfl rfl rfl (show r7 < 171 from by omega) (zs40 (c := c) (by omega) r7 hG (by omega)) ?_
    rintro _ _ _ ⟨r9, rfl, rfl, rfl, hr10⟩
    show wW (zK sc) zM82 61 [(5, .inl 1), (4, .inl r1), (0, .inr (.inr (.inl (some (19, 0))))), (1, .inr (.inr (.inl (some (26, t))))), (2, .inl x), (3, .inr (.inr (.inl (some (1, s)))))] [.inl r9] _ _ _
    refine ww_go 2 (pc' := 64) (L' := [(5, .inl 1), (4, .inl r1), (0, .inr (.inr (.inl (some (19, 0))))), (1, .inr (.inr (.inl (some (26, t))))), (2, .inl x), (3, .inr (.inr (.inl (some (1, s)))))]) (st' := [.inl 7, .inr (.inr (.inl (some (1, s)))), .inl r9]) (m' := m) (o := none) rfl trivial ?_
    refine ww_call (vs := [.inr (.inr (.inl (some (1, s)))), .inl 7]) (r := [.inl r9]) (p := s < 171) rfl rfl rfl rfl (show s < 171 from by omega) (zs28 (c := c) (by omega) 7 s hG (by omega)) ?_
    rintro _ _ _ ⟨r11, rfl, rfl, rfl, hr12⟩
    show wW (zK sc) zM82 67 [(5, .inl 1), (4, .inl r1), (0, .inr (.inr (.inl (some (19, 0))))), (1, .inr (.inr (.inl (some (26, t))))), (2, .inl x), (3, .inr (.inr (.inl (some (1, s)))))] [.inl r11, .inl r9] _ _ _
    refine ww_ic (t := 74) rfl rfl (by omega) (fun (h13 : r9 = r11) => ?_) (fun (h13 : ¬ (r9 = r11)) => ?_)
    · show wW (zK sc) zM82 74 [(5, .inl 1), (4, .inl r1), (0, .inr (.inr (.inl (some (19, 0))))), (1, .inr (.inr (.inl (some (26, t))))), (2, .inl x), (3, .inr (.inr (.inl (some (1, s)))))] [] _ _ _
      refine ww_go 1 (pc' := 75) (L' := [(5, .inl 1), (4, .inl r1), (0, .inr (.inr (.inl (some (19, 0))))), (1, .inr (.inr (.inl (some (26, t))))), (2, .inl x), (3, .inr (.inr (.inl (some (1, s)))))]) (st' := [.inl 0]) (m' := m) (o := none) rfl trivial ?_
      exact ww_rB rfl rfl (by omega) ⟨_, rfl, rfl, rfl, by omega⟩
    · show wW (zK sc) zM82 70 [(5, .inl 1), (4, .inl r1), (0, .inr (.inr (.inl (some (19, 0))))), (1, .inr (.inr (.inl (some (26, t))))), (2, .inl x), (3, .inr (.inr (.inl (some (1, s)))))] [] _ _ _
      refine ww_go 2 (pc' := 75) (L' := [(5, .inl 1), (4, .inl r1), (0, .inr (.inr (.inl (some (19, 0))))), (1, .inr (.inr (.inl (some (26, t))))), (2, .inl x), (3, .inr (.inr (.inl (some (1, s)))))]) (st' := [.inl 1]) (m' := m) (o := none) rfl trivial ?_
      exact ww_rB rfl rfl (by omega) ⟨_, rfl, rfl, rfl, by omega⟩
  · show wW (zK sc) zM82 16 [(4, .inl r1), (0, .inr (.inr (.inl (some (19, 0))))), (1, .inr (.inr (.inl (some (26, t))))), (2, .inl x), (3, .inr (.inr (.inl (some (1, s)))))] [] _ _ _
    refine ww_go 5 (pc' := 24) (L' := [(4, .inl r1), (0, .inr (.inr (.inl (some (19, 0))))), (1, .inr (.inr (.inl (some (26, t))))), (2, .inl x), (3, .inr (.inr (.inl (some (1, s)))))]) (st' := [.inl 0, .inl r1, .inl x, .inr (.inr (.inl (some (22, 0))))]) (m' := m) (o := some ((0 < 1))) rfl (show (0 < 1) from by omega) ?_
    refine ww_call (vs := [.inl x, .inl r1, .inl 0]) (r := [.inr (.inr (.inl (some (22, 0))))]) (p := True) rfl rfl rfl rfl trivial (zs111 x r1 0 (by omega)) ?_
    rintro _ _ _ ⟨r14, rfl, rfl, rfl, hr15⟩
    show wW (zK sc) zM82 27 [(4, .inl r1), (0, .inr (.inr (.inl (some (19, 0))))), (1, .inr (.inr (.inl (some (26, t))))), (2, .inl x), (3, .inr (.inr (.inl (some (1, s)))))] [.inl r14, .inr (.inr (.inl (some (22, 0))))] _ _ _
    refine ww_go 3 (pc' := 31) (L' := [(4, .inl r1), (0, .inr (.inr (.inl (some (19, 0))))), (1, .inr (.inr (.inl (some (26, t))))), (2, .inl x), (3, .inr (.inr (.inl (some (1, s)))))]) (st' := [.inl 1, .inl r1, .inl x, .inl r14, .inr (.inr (.inl (some (22, 0))))]) (m' := m) (o := none) rfl trivial ?_
    refine ww_call (vs := [.inl x, .inl r1, .inl 1]) (r := [.inl r14, .inr (.inr (.inl (some (22, 0))))]) (p := True) rfl rfl rfl rfl trivial (zs111 x r1 1 (by omega)) ?_
    rintro _ _ _ ⟨r16, rfl, rfl, rfl, hr17⟩
    show wW (zK sc) zM82 34 [(4, .inl r1), (0, .inr (.inr (.inl (some (19, 0))))), (1, .inr (.inr (.inl (some (26, t))))), (2, .inl x), (3, .inr (.inr (.inl (some (1, s)))))] [.inl r16, .inl r14, .inr (.inr (.inl (some (22, 0))))] _ _ _
    refine ww_call (vs := [.inr (.inr (.inl (some (22, 0)))), .inl r14, .inl r16]) (r := []) (p := 0 < 1) rfl rfl rfl rfl (show 0 < 1 from by omega) (zs116 (c := c) (by omega) r14 r16 hG (by omega)) ?_
    rintro _ _ _ ⟨r18, rfl, rfl, rfl, hr19⟩
    show wW (zK sc) zM82 37 [(4, .inl r1), (0, .inr (.inr (.inl (some (19, 0))))), (1, .inr (.inr (.inl (some (26, t))))), (2, .inl x), (3, .inr (.inr (.inl (some (1, s)))))] [.inl r18] _ _ _
    refine ww_if (t := 44) rfl rfl (by omega) (fun (h20 : r18 ≤ 0) => ?_) (fun (h20 : ¬ (r18 ≤ 0)) => ?_)
    · show wW (zK sc) zM82 44 [(4, .inl r1), (0, .inr (.inr (.inl (some (19, 0))))), (1, .inr (.inr (.inl (some (26, t))))), (2, .inl x), (3, .inr (.inr (.inl (some (1, s)))))] [] _ _ _
      refine ww_go 3 (pc' := 49) (L' := [(5, .inl 0), (4, .inl r1), (0, .inr (.inr (.inl (some (19, 0))))), (1, .inr (.inr (.inl (some (26, t))))), (2, .inl x), (3, .inr (.inr (.inl (some (1, s)))))]) (st' := [.inl 0]) (m' := m) (o := none) rfl trivial ?_
      refine ww_if (t := 74) rfl rfl (by decide) (fun (h21 : (0 : Int) = 0) => ?_) (fun (h21 : ¬ ((0 : Int) = 0)) => absurd (show (0 : Int) = 0 from by decide) h21)
      show wW (zK sc) zM82 74 [(5, .inl 0), (4, .inl r1), (0, .inr (.inr (.inl (some (19, 0))))), (1, .inr (.inr (.inl (some (26, t))))), (2, .inl x), (3, .inr (.inr (.inl (some (1, s)))))] [] _ _ _
      refine ww_go 1 (pc' := 75) (L' := [(5, .inl 0), (4, .inl r1), (0, .inr (.inr (.inl (some (19, 0))))), (1, .inr (.inr (.inl (some (26, t))))), (2, .inl x), (3, .inr (.inr (.inl (some (1, s)))))]) (st' := [.inl 0]) (m' := m) (o := none) rfl trivial ?_
      exact ww_rB rfl rfl (by omega) ⟨_, rfl, rfl, rfl, by omega⟩
    · show wW (zK sc) zM82 40 [(4, .inl r1), (0, .inr (.inr (.inl (some (19, 0))))), (1, .inr (.inr (.inl (some (26, t))))), (2, .inl x), (3, .inr (.inr (.inl (some (1, s)))))] [] _ _ _
      refine ww_go 4 (pc' := 49) (L' := [(5, .inl 1), (4, .inl r1), (0, .inr (.inr (.inl (some (19, 0))))), (1, .inr (.inr (.inl (some (26, t))))), (2, .inl x), (3, .inr (.inr (.inl (some (1, s)))))]) (st' := [.inl 1]) (m' := m) (o := none) rfl trivial ?_
      refine ww_if (t := 74) rfl rfl (by decide) (fun (h22 : (1 : Int) = 0) => absurd h22 (by decide)) (fun (h22 : ¬ ((1 : Int) = 0)) => ?_)
      show wW (zK sc) zM82 52 [(5, .inl 1), (4, .inl r1), (0, .inr (.inr (.inl (some (19, 0))))), (1, .inr (.inr (.inl (some (26, t))))), (2, .inl x), (3, .inr (.inr (.inl (some (1, s)))))] [] _ _ _
      refine ww_go 2 (pc' := 55) (L' := [(5, .inl 1), (4, .inl r1), (0, .inr (.inr (.inl (some (19, 0))))), (1, .inr (.inr (.inl (some (26, t))))), (2, .inl x), (3, .inr (.inr (.inl (some (1, s)))))]) (st' := [.inl r1, .inr (.inr (.inl (some (26, t))))]) (m' := m) (o := none) rfl trivial ?_
      refine ww_call (vs := [.inr (.inr (.inl (some (26, t)))), .inl r1]) (r := []) (p := t < 10) rfl rfl rfl rfl (show t < 10 from by omega) (zs152 (c := c) (by omega) r1 t hG (by omega)) ?_
      rintro _ _ _ ⟨r23, rfl, rfl, rfl, hr24⟩
      show wW (zK sc) zM82 58 [(5, .inl 1), (4, .inl r1), (0, .inr (.inr (.inl (some (19, 0))))), (1, .inr (.inr (.inl (some (26, t))))), (2, .inl x), (3, .inr (.inr (.inl (some (1, s)))))] [.inr (.inr (.inl (some (1, r23))))] _ _ _
      refine ww_call (vs := [.inr (.inr (.inl (some (1, r23))))]) (r := []) (p := r23 < 171) rfl rfl rfl rfl (show r23 < 171 from by omega) (zs40 (c := c) (by omega) r23 hG (by omega)) ?_
      rintro _ _ _ ⟨r25, rfl, rfl, rfl, hr26⟩
      show wW (zK sc) zM82 61 [(5, .inl 1), (4, .inl r1), (0, .inr (.inr (.inl (some (19, 0))))), (1, .inr (.inr (.inl (some (26, t))))), (2, .inl x), (3, .inr (.inr (.inl (some (1, s)))))] [.inl r25] _ _ _
      refine ww_go 2 (pc' := 64) (L' := [(5, .inl 1), (4, .inl r1), (0, .inr (.inr (.inl (some (19, 0))))), (1, .inr (.inr (.inl (some (26, t))))), (2, .inl x), (3, .inr (.inr (.inl (some (1, s)))))]) (st' := [.inl 7, .inr (.inr (.inl (some (1, s)))), .inl r25]) (m' := m) (o := none) rfl trivial ?_
      refine ww_call (vs := [.inr (.inr (.inl (some (1, s)))), .inl 7]) (r := [.inl r25]) (p := s < 171) rfl rfl rfl rfl (show s < 171 from by omega) (zs28 (c := c) (by omega) 7 s hG (by omega)) ?_
      rintro _ _ _ ⟨r27, rfl, rfl, rfl, hr28⟩
      show wW (zK sc) zM82 67 [(5, .inl 1), (4, .inl r1), (0, .inr (.inr (.inl (some (19, 0))))), (1, .inr (.inr (.inl (some (26, t))))), (2, .inl x), (3, .inr (.inr (.inl (some (1, s)))))] [.inl r27, .inl r25] _ _ _
      refine ww_ic (t := 74) rfl rfl (by omega) (fun (h29 : r25 = r27) => ?_) (fun (h29 : ¬ (r25 = r27)) => ?_)
      · show wW (zK sc) zM82 74 [(5, .inl 1), (4, .inl r1), (0, .inr (.inr (.inl (some (19, 0))))), (1, .inr (.inr (.inl (some (26, t))))), (2, .inl x), (3, .inr (.inr (.inl (some (1, s)))))] [] _ _ _
        refine ww_go 1 (pc' := 75) (L' := [(5, .inl 1), (4, .inl r1), (0, .inr (.inr (.inl (some (19, 0))))), (1, .inr (.inr (.inl (some (26, t))))), (2, .inl x), (3, .inr (.inr (.inl (some (1, s)))))]) (st' := [.inl 0]) (m' := m) (o := none) rfl trivial ?_
        exact ww_rB rfl rfl (by omega) ⟨_, rfl, rfl, rfl, by omega⟩
      · show wW (zK sc) zM82 70 [(5, .inl 1), (4, .inl r1), (0, .inr (.inr (.inl (some (19, 0))))), (1, .inr (.inr (.inl (some (26, t))))), (2, .inl x), (3, .inr (.inr (.inl (some (1, s)))))] [] _ _ _
        refine ww_go 2 (pc' := 75) (L' := [(5, .inl 1), (4, .inl r1), (0, .inr (.inr (.inl (some (19, 0))))), (1, .inr (.inr (.inl (some (26, t))))), (2, .inl x), (3, .inr (.inr (.inl (some (1, s)))))]) (st' := [.inl 1]) (m' := m) (o := none) rfl trivial ?_
        exact ww_rB rfl rfl (by omega) ⟨_, rfl, rfl, rfl, by omega⟩
set_option maxRecDepth 8000 in
/-- Receiver.piecesOf -/
theorem zs99 {sc : xSc} {n : Nat × Nat} {m : wm} {c : Int} (hc : 0 ≤ c ∧ c ≤ 1000000) (s : Nat) (hG : zB c m) (h0 : s < 101) : wX (zK sc) 99 [.inr (.inr (.inl (some (1, s))))] n m (wr (fun vv n1 m1 => ∃ r : Int, vv = some (.inl r) ∧ n = n1 ∧ m = m1 ∧ (1 ≤ r ∧ r ≤ 8))) := by
  refine wX_of (N := zM99) rfl (Nat.le_of_ble_eq_true rfl) ?_
  show wW (zK sc) zM99 0 [(0, .inr (.inr (.inl (some (1, s)))))] [] n m _
  refine ww_go 2 (pc' := 3) (L' := [(0, .inr (.inr (.inl (some (1, s)))))]) (st' := [.inl 7, .inr (.inr (.inl (some (1, s))))]) (m' := m) (o := none) rfl trivial ?_
  refine ww_call (vs := [.inr (.inr (.inl (some (1, s)))), .inl 7]) (r := []) (p := s < 171) rfl rfl rfl rfl (show s < 171 from by omega) (zs28 (c := c) (by omega) 7 s hG (by omega)) ?_
  rintro _ _ _ ⟨r1, rfl, rfl, rfl, hr2⟩
  show wW (zK sc) zM99 6 [(0, .inr (.inr (.inl (some (1, s)))))] [.inl r1] _ _ _
  refine ww_go 2 (pc' := 8) (L' := [(0, .inr (.inr (.inl (some (1, s)))))]) (st' := [.inl 5, .inr (.inr (.inl (some (1, s)))), .inl r1]) (m' := m) (o := none) rfl trivial ?_
  refine ww_call (vs := [.inr (.inr (.inl (some (1, s)))), .inl 5]) (r := [.inl r1]) (p := s < 171) rfl rfl rfl rfl (show s < 171 from by omega) (zs28 (c := c) (by omega) 5 s hG (by omega)) ?_
  rintro _ _ _ ⟨r3, rfl, rfl, rfl, hr4⟩
  show wW (zK sc) zM99 11 [(0, .inr (.inr (.inl (some (1, s)))))] [.inl r3, .inl r1] _ _ _
  refine ww_call (vs := [.inl r1, .inl r3]) (r := []) (p := True) rfl rfl rfl rfl trivial (zs45 r1 r3 (by omega)) ?_
  rintro _ _ _ ⟨r5, rfl, rfl, rfl, hr6⟩
  show wW (zK sc) zM99 14 [(0, .inr (.inr (.inl (some (1, s)))))] [.inl r5] _ _ _
  exact ww_rI rfl rfl ⟨_, rfl, rfl, rfl, by omega⟩
set_option maxRecDepth 8000 in
/-- Receiver.maskOf -/
theorem zs97 {sc : xSc} {n : Nat × Nat} {m : wm} {c : Int} (hc : 0 ≤ c ∧ c ≤ 1000000) (s : Nat) (hG : zB c m) (h0 : s < 101) : wX (zK sc) 97 [.inr (.inr (.inl (some (1, s))))] n m (wr (fun vv n1 m1 => ∃ r : Int, vv = some (.inl r) ∧ n = n1 ∧ m = m1 ∧ (-2147483648 ≤ r ∧ r ≤ 2147483647))) := by
  refine wX_of (N := zM97) rfl (Nat.le_of_ble_eq_true rfl) ?_
  show wW (zK sc) zM97 0 [(0, .inr (.inr (.inl (some (1, s)))))] [] n m _
  refine ww_go 3 (pc' := 3) (L' := [(0, .inr (.inr (.inl (some (1, s)))))]) (st' := [.inl 2, .inl 2, .inr (.inr (.inl (some (1, s))))]) (m' := m) (o := none) rfl trivial ?_
  refine ww_call (vs := [.inr (.inr (.inl (some (1, s)))), .inl 2, .inl 2]) (r := []) (p := s < 171) rfl rfl rfl rfl (show s < 171 from by omega) (zs36 (c := c) (by omega) 2 2 s hG (by omega)) ?_
  rintro _ _ _ ⟨r1, rfl, rfl, rfl, hr2⟩
  show wW (zK sc) zM97 6 [(0, .inr (.inr (.inl (some (1, s)))))] [.inr (.inl r1)] _ _ _
  have t3 := wl2i_rg r1
  refine ww_go 3 (pc' := 9) (L' := [(0, .inr (.inr (.inl (some (1, s)))))]) (st' := [.inl 4, .inr (.inr (.inl (some (1, s)))), .inl (wl2i r1)]) (m' := m) (o := none) rfl trivial ?_
  refine ww_call (vs := [.inr (.inr (.inl (some (1, s)))), .inl 4]) (r := [.inl (wl2i r1)]) (p := s < 171) rfl rfl rfl rfl (show s < 171 from by omega) (zs28 (c := c) (by omega) 4 s hG (by omega)) ?_
  rintro _ _ _ ⟨r4, rfl, rfl, rfl, hr5⟩
  show wW (zK sc) zM97 12 [(0, .inr (.inr (.inl (some (1, s)))))] [.inl r4, .inl (wl2i r1)] _ _ _
  refine ww_go 2 (pc' := 14) (L' := [(0, .inr (.inr (.inl (some (1, s)))))]) (st' := [.inl 5, .inr (.inr (.inl (some (1, s)))), .inl r4, .inl (wl2i r1)]) (m' := m) (o := none) rfl trivial ?_
  refine ww_call (vs := [.inr (.inr (.inl (some (1, s)))), .inl 5]) (r := [.inl r4, .inl (wl2i r1)]) (p := s < 171) rfl rfl rfl rfl (show s < 171 from by omega) (zs28 (c := c) (by omega) 5 s hG (by omega)) ?_
  rintro _ _ _ ⟨r6, rfl, rfl, rfl, hr7⟩
  show wW (zK sc) zM97 17 [(0, .inr (.inr (.inl (some (1, s)))))] [.inl r6, .inl r4, .inl (wl2i r1)] _ _ _
  refine ww_go 2 (pc' := 20) (L' := [(0, .inr (.inr (.inl (some (1, s)))))]) (st' := [.inl 6, .inr (.inr (.inl (some (1, s)))), .inl r6, .inl r4, .inl (wl2i r1)]) (m' := m) (o := none) rfl trivial ?_
  refine ww_call (vs := [.inr (.inr (.inl (some (1, s)))), .inl 6]) (r := [.inl r6, .inl r4, .inl (wl2i r1)]) (p := s < 171) rfl rfl rfl rfl (show s < 171 from by omega) (zs28 (c := c) (by omega) 6 s hG (by omega)) ?_
  rintro _ _ _ ⟨r8, rfl, rfl, rfl, hr9⟩
  show wW (zK sc) zM97 23 [(0, .inr (.inr (.inl (some (1, s)))))] [.inl r8, .inl r6, .inl r4, .inl (wl2i r1)] _ _ _
  refine ww_go 1 (pc' := 24) (L' := [(0, .inr (.inr (.inl (some (1, s)))))]) (st' := [.inr (.inr (.inl (some (1, s)))), .inl r8, .inl r6, .inl r4, .inl (wl2i r1)]) (m' := m) (o := none) rfl trivial ?_
  refine ww_call (vs := [.inr (.inr (.inl (some (1, s))))]) (r := [.inl r8, .inl r6, .inl r4, .inl (wl2i r1)]) (p := True) rfl rfl rfl rfl trivial (zs99 (c := c) (by omega) s hG (by omega)) ?_
  rintro _ _ _ ⟨r10, rfl, rfl, rfl, hr11⟩
  show wW (zK sc) zM97 27 [(0, .inr (.inr (.inl (some (1, s)))))] [.inl r10, .inl r8, .inl r6, .inl r4, .inl (wl2i r1)] _ _ _
  refine ww_call (vs := [.inl (wl2i r1), .inl r4, .inl r6, .inl r8, .inl r10]) (r := []) (p := True) rfl rfl rfl rfl trivial (zs43 (wl2i r1) r4 r6 r8 r10 (by omega)) ?_
  rintro _ _ _ ⟨r12, rfl, rfl, rfl, hr13⟩
  show wW (zK sc) zM97 30 [(0, .inr (.inr (.inl (some (1, s)))))] [.inl r12] _ _ _
  exact ww_rI rfl rfl ⟨_, rfl, rfl, rfl, by omega⟩
set_option maxRecDepth 8000 in
theorem zs96_l4 {sc : xSc} {n : Nat × Nat} {m0 : wm} {c : Int} (hc : 0 ≤ c ∧ c ≤ 1000000)  (hG : zB c m0) : ∀ (d : Nat), ∀ (w : Int) (z : Int), (24 - z).toNat = d → (-1 ≤ w ∧ w ≤ 250000 ∧ 0 ≤ z ∧ z ≤ 24) →  wW (zK sc) zM96 4 [(0, .inr (.inr (.inl (some (19, 0))))), (1, .inl w), (2, .inl z)] [] n m0 (wr (fun vv n1 m1 => ∃ r : Int, vv = some (.inl r) ∧ n = n1 ∧ zB c m1 ∧ zfr (fun k i j => (k = 22) ∨ (k = 23) ∨ (k = 24) ∨ (k = 25)) m0 m1 ∧ (0 ≤ r ∧ r ≤ 1))) := by
  intro d
  induction d using Nat.strongRecOn with
  | ind d ih =>
    intro w z hd hi
    have hF : zfr (fun k i j => (k = 22) ∨ (k = 23) ∨ (k = 24) ∨ (k = 25)) m0 m0 := zfr_rf
    refine ww_go 3 (pc' := 9) (L' := [(0, .inr (.inr (.inl (some (19, 0))))), (1, .inl w), (2, .inl z)]) (st' := [.inr (.inr (.inl (some (22, 0)))), .inl z]) (m' := m0) (o := some ((0 < 1))) rfl (show (0 < 1) from by omega) ?_
    refine ww_call (vs := [.inr (.inr (.inl (some (22, 0))))]) (r := [.inl z]) (p := 0 < 1) rfl rfl rfl rfl (show 0 < 1 from by omega) (zs118 (c := c) (by omega) hG) ?_
    rintro _ _ _ ⟨r1, rfl, rfl, rfl, hr2⟩
    show wW (zK sc) zM96 12 [(0, .inr (.inr (.inl (some (19, 0))))), (1, .inl w), (2, .inl z)] [.inl r1, .inl z] _ _ _
    refine ww_ic (t := 70) rfl rfl (by omega) (fun (h3 : r1 ≤ z) => ?_) (fun (h3 : ¬ (r1 ≤ z)) => ?_)
    · show wW (zK sc) zM96 70 [(0, .inr (.inr (.inl (some (19, 0))))), (1, .inl w), (2, .inl z)] [] _ _ _
      refine ww_go 1 (pc' := 71) (L' := [(0, .inr (.inr (.inl (some (19, 0))))), (1, .inl w), (2, .inl z)]) (st' := [.inl w]) (m' := m0) (o := none) rfl trivial ?_
      refine ww_if (t := 76) rfl rfl (by omega) (fun (h4 : 0 ≤ w) => ?_) (fun (h4 : ¬ (0 ≤ w)) => ?_)
      · show wW (zK sc) zM96 76 [(0, .inr (.inr (.inl (some (19, 0))))), (1, .inl w), (2, .inl z)] [] _ _ _
        refine ww_go 3 (pc' := 81) (L' := [(0, .inr (.inr (.inl (some (19, 0))))), (1, .inl w), (2, .inl z)]) (st' := [.inl w, .inr (.inr (.inl (some (22, 0))))]) (m' := m0) (o := some ((0 < 1))) rfl (show (0 < 1) from by omega) ?_
        refine ww_call (vs := [.inl w]) (r := [.inr (.inr (.inl (some (22, 0))))]) (p := True) rfl rfl rfl rfl trivial (zs108 w (by omega)) ?_
        rintro _ _ _ ⟨r5, rfl, rfl, rfl, hr6⟩
        show wW (zK sc) zM96 84 [(0, .inr (.inr (.inl (some (19, 0))))), (1, .inl w), (2, .inl z)] [.inl r5, .inr (.inr (.inl (some (22, 0))))] _ _ _
        refine ww_go 1 (pc' := 85) (L' := [(0, .inr (.inr (.inl (some (19, 0))))), (1, .inl w), (2, .inl z)]) (st' := [.inl w, .inl r5, .inr (.inr (.inl (some (22, 0))))]) (m' := m0) (o := none) rfl trivial ?_
        refine ww_call (vs := [.inl w]) (r := [.inl r5, .inr (.inr (.inl (some (22, 0))))]) (p := True) rfl rfl rfl rfl trivial (zs112 w (by omega)) ?_
        rintro _ _ _ ⟨r7, rfl, rfl, rfl, hr8⟩
        show wW (zK sc) zM96 88 [(0, .inr (.inr (.inl (some (19, 0))))), (1, .inl w), (2, .inl z)] [.inl r7, .inl r5, .inr (.inr (.inl (some (22, 0))))] _ _ _
        refine ww_call (vs := [.inr (.inr (.inl (some (22, 0)))), .inl r5, .inl r7]) (r := []) (p := 0 < 1) rfl rfl rfl rfl (show 0 < 1 from by omega) (zs106 (c := c) (by omega) r5 r7 hG (by omega)) ?_
        rintro _ _ m11 ⟨rfl, rfl, hGm11, hEm11, hr10⟩
        have hFm11 : zfr (fun k i j => (k = 22) ∨ (k = 23) ∨ (k = 24) ∨ (k = 25)) m0 m11 := zfr_tr hF hEm11 (fun k i j z => Or.elim z (fun z => Or.inl z) (fun z => Or.elim z (fun z => Or.inr (Or.inl z)) (fun z => Or.elim z (fun z => Or.inr (Or.inr (Or.inl z))) (fun z => Or.inr (Or.inr (Or.inr (z)))))))
        show wW (zK sc) zM96 91 [(0, .inr (.inr (.inl (some (19, 0))))), (1, .inl w), (2, .inl z)] [] _ _ _
        refine ww_go 1 (pc' := 92) (L' := [(0, .inr (.inr (.inl (some (19, 0))))), (1, .inl w), (2, .inl z)]) (st' := [.inl 1]) (m' := m11) (o := none) rfl trivial ?_
        exact ww_rB rfl rfl (by omega) ⟨_, rfl, rfl, zB_mono hGm11 (by omega), hFm11, by omega⟩
      · show wW (zK sc) zM96 74 [(0, .inr (.inr (.inl (some (19, 0))))), (1, .inl w), (2, .inl z)] [] _ _ _
        refine ww_go 1 (pc' := 75) (L' := [(0, .inr (.inr (.inl (some (19, 0))))), (1, .inl w), (2, .inl z)]) (st' := [.inl 0]) (m' := m0) (o := none) rfl trivial ?_
        exact ww_rB rfl rfl (by omega) ⟨_, rfl, rfl, zB_mono hG (by omega), hF, by omega⟩
    · show wW (zK sc) zM96 15 [(0, .inr (.inr (.inl (some (19, 0))))), (1, .inl w), (2, .inl z)] [] _ _ _
      refine ww_go 3 (pc' := 20) (L' := [(0, .inr (.inr (.inl (some (19, 0))))), (1, .inl w), (2, .inl z)]) (st' := [.inl z, .inr (.inr (.inl (some (22, 0))))]) (m' := m0) (o := some ((0 < 1))) rfl (show (0 < 1) from by omega) ?_
      refine ww_call (vs := [.inr (.inr (.inl (some (22, 0)))), .inl z]) (r := []) (p := 0 < 1) rfl rfl rfl rfl (show 0 < 1 from by omega) (zs114 (c := c) (by omega) z hG (by omega)) ?_
      rintro _ _ _ ⟨r12, rfl, rfl, rfl, hr13⟩
      show wW (zK sc) zM96 23 [(0, .inr (.inr (.inl (some (19, 0))))), (1, .inl w), (2, .inl z)] [.inl r12] _ _ _
      have t14 := wand_rg r12 1
      have t15 := wand_m1 r12
      refine ww_go 9 (pc' := 32) (L' := [(3, .inl r12), (0, .inr (.inr (.inl (some (19, 0))))), (1, .inl w), (2, .inl z)]) (st' := [.inl (wand r12 1), .inr (.inr (.inl (some (19, 0)))), .inl (wand r12 1), .inl r12]) (m' := m0) (o := none) rfl trivial ?_
      refine ww_call (vs := [.inr (.inr (.inl (some (19, 0)))), .inl (wand r12 1)]) (r := [.inl (wand r12 1), .inl r12]) (p := 0 < 1) rfl rfl rfl rfl (show 0 < 1 from by omega) (zs81 (c := c) (by omega) (wand r12 1) hG (by omega)) ?_
      rintro _ _ _ ⟨r16, rfl, rfl, rfl, hr17⟩
      show wW (zK sc) zM96 35 [(3, .inl r12), (0, .inr (.inr (.inl (some (19, 0))))), (1, .inl w), (2, .inl z)] [.inl r16, .inl (wand r12 1), .inl r12] _ _ _
      refine ww_call (vs := [.inl (wand r12 1), .inl r16]) (r := [.inl r12]) (p := True) rfl rfl rfl rfl trivial (zs113 (wand r12 1) r16 (by omega)) ?_
      rintro _ _ _ ⟨r18, rfl, rfl, rfl, hr19⟩
      show wW (zK sc) zM96 38 [(3, .inl r12), (0, .inr (.inr (.inl (some (19, 0))))), (1, .inl w), (2, .inl z)] [.inl r18, .inl r12] _ _ _
      refine ww_ic (t := 45) rfl rfl (by omega) (fun (h20 : r12 ≠ r18) => ?_) (fun (h20 : ¬ (r12 ≠ r18)) => ?_)
      · show wW (zK sc) zM96 45 [(3, .inl r12), (0, .inr (.inr (.inl (some (19, 0))))), (1, .inl w), (2, .inl z)] [] _ _ _
        refine ww_go 3 (pc' := 50) (L' := [(4, .inl 0), (3, .inl r12), (0, .inr (.inr (.inl (some (19, 0))))), (1, .inl w), (2, .inl z)]) (st' := [.inl 0]) (m' := m0) (o := none) rfl trivial ?_
        refine ww_if (t := 64) rfl rfl (by decide) (fun (h21 : (0 : Int) ≠ 0) => absurd h21 (by decide)) (fun (h21 : ¬ ((0 : Int) ≠ 0)) => ?_)
        show wW (zK sc) zM96 53 [(4, .inl 0), (3, .inl r12), (0, .inr (.inr (.inl (some (19, 0))))), (1, .inl w), (2, .inl z)] [] _ _ _
        refine ww_go 1 (pc' := 54) (L' := [(4, .inl 0), (3, .inl r12), (0, .inr (.inr (.inl (some (19, 0))))), (1, .inl w), (2, .inl z)]) (st' := [.inl w]) (m' := m0) (o := none) rfl trivial ?_
        refine ww_if (t := 62) rfl rfl (by omega) (fun (h22 : w < 0) => ?_) (fun (h22 : ¬ (w < 0)) => ?_)
        · show wW (zK sc) zM96 62 [(4, .inl 0), (3, .inl r12), (0, .inr (.inr (.inl (some (19, 0))))), (1, .inl w), (2, .inl z)] [] _ _ _
          refine ww_go 4 (pc' := 4) (L' := [(2, .inl (z + 1)), (1, .inl r12), (4, .inl 0), (3, .inl r12), (0, .inr (.inr (.inl (some (19, 0)))))]) (st' := []) (m' := m0) (o := none) rfl trivial ?_
          refine ww_sub (L := [(0, .inr (.inr (.inl (some (19, 0))))), (1, .inl r12), (2, .inl (z + 1))]) ⟨rfl, rfl, rfl, trivial⟩ rfl rfl ?_
          exact (ih _ (by omega)) r12 (z + 1) rfl (by omega)
        · show wW (zK sc) zM96 57 [(4, .inl 0), (3, .inl r12), (0, .inr (.inr (.inl (some (19, 0))))), (1, .inl w), (2, .inl z)] [] _ _ _
          refine ww_go 2 (pc' := 59) (L' := [(4, .inl 0), (3, .inl r12), (0, .inr (.inr (.inl (some (19, 0))))), (1, .inl w), (2, .inl z)]) (st' := [.inl w, .inl r12]) (m' := m0) (o := none) rfl trivial ?_
          refine ww_ic (t := 64) rfl rfl (by omega) (fun (h23 : w ≤ r12) => ?_) (fun (h23 : ¬ (w ≤ r12)) => ?_)
          · show wW (zK sc) zM96 64 [(4, .inl 0), (3, .inl r12), (0, .inr (.inr (.inl (some (19, 0))))), (1, .inl w), (2, .inl z)] [] _ _ _
            refine ww_go 2 (pc' := 4) (L' := [(2, .inl (z + 1)), (4, .inl 0), (3, .inl r12), (0, .inr (.inr (.inl (some (19, 0))))), (1, .inl w)]) (st' := []) (m' := m0) (o := none) rfl trivial ?_
            refine ww_sub (L := [(0, .inr (.inr (.inl (some (19, 0))))), (1, .inl w), (2, .inl (z + 1))]) ⟨rfl, rfl, rfl, trivial⟩ rfl rfl ?_
            exact (ih _ (by omega)) w (z + 1) rfl (by omega)
          · show wW (zK sc) zM96 62 [(4, .inl 0), (3, .inl r12), (0, .inr (.inr (.inl (some (19, 0))))), (1, .inl w), (2, .inl z)] [] _ _ _
            refine ww_go 4 (pc' := 4) (L' := [(2, .inl (z + 1)), (1, .inl r12), (4, .inl 0), (3, .inl r12), (0, .inr (.inr (.inl (some (19, 0)))))]) (st' := []) (m' := m0) (o := none) rfl trivial ?_
            refine ww_sub (L := [(0, .inr (.inr (.inl (some (19, 0))))), (1, .inl r12), (2, .inl (z + 1))]) ⟨rfl, rfl, rfl, trivial⟩ rfl rfl ?_
            exact (ih _ (by omega)) r12 (z + 1) rfl (by omega)
      · show wW (zK sc) zM96 41 [(3, .inl r12), (0, .inr (.inr (.inl (some (19, 0))))), (1, .inl w), (2, .inl z)] [] _ _ _
        refine ww_go 4 (pc' := 50) (L' := [(4, .inl 1), (3, .inl r12), (0, .inr (.inr (.inl (some (19, 0))))), (1, .inl w), (2, .inl z)]) (st' := [.inl 1]) (m' := m0) (o := none) rfl trivial ?_
        refine ww_if (t := 64) rfl rfl (by decide) (fun (h24 : (1 : Int) ≠ 0) => ?_) (fun (h24 : ¬ ((1 : Int) ≠ 0)) => absurd (show (1 : Int) ≠ 0 from by decide) h24)
        show wW (zK sc) zM96 64 [(4, .inl 1), (3, .inl r12), (0, .inr (.inr (.inl (some (19, 0))))), (1, .inl w), (2, .inl z)] [] _ _ _
        refine ww_go 2 (pc' := 4) (L' := [(2, .inl (z + 1)), (4, .inl 1), (3, .inl r12), (0, .inr (.inr (.inl (some (19, 0))))), (1, .inl w)]) (st' := []) (m' := m0) (o := none) rfl trivial ?_
        refine ww_sub (L := [(0, .inr (.inr (.inl (some (19, 0))))), (1, .inl w), (2, .inl (z + 1))]) ⟨rfl, rfl, rfl, trivial⟩ rfl rfl ?_
        exact (ih _ (by omega)) w (z + 1) rfl (by omega)
set_option maxRecDepth 8000 in
/-- Receiver.makeRoom -/
theorem zs96 {sc : xSc} {n : Nat × Nat} {m0 : wm} {c : Int} (hc : 0 ≤ c ∧ c ≤ 1000000)  (hG : zB c m0) : wX (zK sc) 96 [.inr (.inr (.inl (some (19, 0))))] n m0 (wr (fun vv n1 m1 => ∃ r : Int, vv = some (.inl r) ∧ n = n1 ∧ zB c m1 ∧ zfr (fun k i j => (k = 22) ∨ (k = 23) ∨ (k = 24) ∨ (k = 25)) m0 m1 ∧ (0 ≤ r ∧ r ≤ 1))) := by
  refine wX_of (N := zM96) rfl (Nat.le_of_ble_eq_true rfl) ?_
  show wW (zK sc) zM96 0 [(0, .inr (.inr (.inl (some (19, 0)))))] [] n m0 _
  have hF : zfr (fun k i j => (k = 22) ∨ (k = 23) ∨ (k = 24) ∨ (k = 25)) m0 m0 := zfr_rf
  refine ww_go 4 (pc' := 4) (L' := [(2, .inl 0), (1, .inl ((-1))), (0, .inr (.inr (.inl (some (19, 0)))))]) (st' := []) (m' := m0) (o := none) rfl trivial ?_
  refine ww_sub (L := [(0, .inr (.inr (.inl (some (19, 0))))), (1, .inl ((-1))), (2, .inl 0)]) ⟨rfl, rfl, rfl, trivial⟩ rfl rfl ?_
  exact (zs96_l4 hc hG _) ((-1)) 0 rfl (by omega)
