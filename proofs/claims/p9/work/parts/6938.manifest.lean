set_option maxRecDepth 8000 in
/-- Version.isBehindLast -/
theorem yt147 {sc : xSc} {n : Nat × Nat} {m : wm} {c : Int} (hc : 0 ≤ c ∧ c ≤ 1000000) (x : Int) (t : Nat) (hG : zB c m) (h0 : t < 10 ∧ 0 ≤ x ∧ x ≤ 5) : wX (zK sc) 147 [.inr (.inr (.inl (some (26, t)))), .inl x] n m (wr (fun vv n1 m1 => ∃ r : Int, vv = some (.inl r) ∧ n = n1 ∧ m = m1 ∧ ((r = 1 ∧ zBl m t x) ∨ (r = 0 ∧ ¬ zBl m t x)))) := by
  refine wX_of (N := zM147) rfl (Nat.le_of_ble_eq_true rfl) ?_
  show wW (zK sc) zM147 0 [(0, .inr (.inr (.inl (some (26, t))))), (1, .inl x)] [] n m _
  refine ww_go 1 (pc' := 1) (L' := [(0, .inr (.inr (.inl (some (26, t))))), (1, .inl x)]) (st' := [.inl x]) (m' := m) (o := none) rfl trivial ?_
  refine ww_if (t := 50) rfl rfl (by omega) (fun (h1 : x = 0) => ?_) (fun (h1 : ¬ (x = 0)) => ?_)
  · show wW (zK sc) zM147 50 [(0, .inr (.inr (.inl (some (26, t))))), (1, .inl x)] [] _ _ _
    refine ww_go 2 (pc' := 55) (L' := [(0, .inr (.inr (.inl (some (26, t))))), (1, .inl x)]) (st' := [.inl 1]) (m' := m) (o := none) rfl trivial ?_
    exact ww_rB rfl rfl (by omega) ⟨_, rfl, rfl, rfl, by exact Or.inl ⟨rfl, Or.inl (by omega)⟩⟩
  · show wW (zK sc) zM147 4 [(0, .inr (.inr (.inl (some (26, t))))), (1, .inl x)] [] _ _ _
    have b2 : 0 ≤ m.1 30 t ((x - 1).toNat) ∧ m.1 30 t ((x - 1).toNat) ≤ 10000 := hG.1 30 _ rfl _ _
    have b3 : 0 ≤ m.1 31 t ((x - 1).toNat) ∧ m.1 31 t ((x - 1).toNat) ≤ 255 := hG.1 31 _ rfl _ _
    have b4 : 0 ≤ m.1 30 t x.toNat ∧ m.1 30 t x.toNat ≤ 10000 := hG.1 30 _ rfl _ _
    have b5 : 0 ≤ m.1 31 t x.toNat ∧ m.1 31 t x.toNat ≤ 255 := hG.1 31 _ rfl _ _
    refine ww_go 28 (pc' := 44) (L' := [(0, .inr (.inr (.inl (some (26, t))))), (1, .inl x)]) (st' := [.inl (m.1 31 t x.toNat), .inl (m.1 30 t x.toNat), .inr (.inr (.inl (some (1, 101 + 7 * t + 0)))), .inl (m.1 31 t ((x - 1).toNat)), .inl (m.1 30 t ((x - 1).toNat)), .inr (.inr (.inl (some (1, 101 + 7 * t + 0))))]) (m' := m) (o := some ((t < 10) ∧ (t < 10 ∧ 0 ≤ (0 : Int) ∧ (0 : Int) < ((7 : Nat) : Int)) ∧ (t < 10) ∧ (t < 10 ∧ 0 ≤ x - 1 ∧ x - 1 < ((6 : Nat) : Int)) ∧ (t < 10) ∧ (t < 10 ∧ 0 ≤ x - 1 ∧ x - 1 < ((6 : Nat) : Int)) ∧ (t < 10) ∧ (t < 10 ∧ 0 ≤ (0 : Int) ∧ (0 : Int) < ((7 : Nat) : Int)) ∧ (t < 10) ∧ (t < 10 ∧ 0 ≤ x ∧ x < ((6 : Nat) : Int)) ∧ (t < 10) ∧ (t < 10 ∧ 0 ≤ x ∧ x < ((6 : Nat) : Int)))) rfl (show (t < 10) ∧ (t < 10 ∧ 0 ≤ (0 : Int) ∧ (0 : Int) < ((7 : Nat) : Int)) ∧ (t < 10) ∧ (t < 10 ∧ 0 ≤ x - 1 ∧ x - 1 < ((6 : Nat) : Int)) ∧ (t < 10) ∧ (t < 10 ∧ 0 ≤ x - 1 ∧ x - 1 < ((6 : Nat) : Int)) ∧ (t < 10) ∧ (t < 10 ∧ 0 ≤ (0 : Int) ∧ (0 : Int) < ((7 : Nat) : Int)) ∧ (t < 10) ∧ (t < 10 ∧ 0 ≤ x ∧ x < ((6 : Nat) : Int)) ∧ (t < 10) ∧ (t < 10 ∧ 0 ≤ x ∧ x < ((6 : Nat) : Int)) from by omega) ?_
    refine ww_call (vs := [.inr (.inr (.inl (some (1, 101 + 7 * t + 0)))), .inl (m.1 30 t ((x - 1).toNat)), .inl (m.1 31 t ((x - 1).toNat)), .inr (.inr (.inl (some (1, 101 + 7 * t + 0)))), .inl (m.1 30 t x.toNat), .inl (m.1 31 t x.toNat)]) (r := []) (p := 101 + 7 * t + 0 < 171) rfl rfl rfl rfl (show 101 + 7 * t + 0 < 171 from by omega) (zs31 (c := c) (by omega) (m.1 30 t ((x - 1).toNat)) (m.1 31 t ((x - 1).toNat)) (m.1 30 t x.toNat) (m.1 31 t x.toNat) (101 + 7 * t + 0) (101 + 7 * t + 0) hG (by omega)) ?_
    rintro _ _ _ ⟨r6, rfl, rfl, rfl, hr7⟩
    show wW (zK sc) zM147 47 [(0, .inr (.inr (.inl (some (26, t))))), (1, .inl x)] [.inl r6] _ _ _
    refine ww_if (t := 54) rfl rfl (by omega) (fun (h8 : 0 ≤ r6) => ?_) (fun (h8 : ¬ (0 ≤ r6)) => ?_)
    · show wW (zK sc) zM147 54 [(0, .inr (.inr (.inl (some (26, t))))), (1, .inl x)] [] _ _ _
      refine ww_go 1 (pc' := 55) (L' := [(0, .inr (.inr (.inl (some (26, t))))), (1, .inl x)]) (st' := [.inl 0]) (m' := m) (o := none) rfl trivial ?_
      exact ww_rB rfl rfl (by omega) ⟨_, rfl, rfl, rfl, by exact Or.inr ⟨rfl, fun z => z.elim (fun z => absurd z (by omega)) (fun ⟨_, z1, z2⟩ => absurd (zCm_u hr7.2 z1) (by omega))⟩⟩
    · show wW (zK sc) zM147 50 [(0, .inr (.inr (.inl (some (26, t))))), (1, .inl x)] [] _ _ _
      refine ww_go 2 (pc' := 55) (L' := [(0, .inr (.inr (.inl (some (26, t))))), (1, .inl x)]) (st' := [.inl 1]) (m' := m) (o := none) rfl trivial ?_
      exact ww_rB rfl rfl (by omega) ⟨_, rfl, rfl, rfl, by exact Or.inl ⟨rfl, Or.inr ⟨_, hr7.2, by omega⟩⟩⟩
set_option maxRecDepth 8000 in
theorem yt156_l41 {sc : xSc} {n : Nat × Nat} {m0 : wm} {c : Int} (hc : 0 ≤ c ∧ c ≤ 1000000) (t : Nat) (hG : zB c m0) (h0 : t < 10) : ∀ (d : Nat), ∀ (y : Int) (z : Int) (w : Int) (m : wm), (6 - w).toNat = d → zB c m → zfr (fun k i j => (k = 26 ∧ i = t ∧ 9 ≤ j ∧ j ≤ 10) ∨ (30 ≤ k ∧ k ≤ 33 ∧ i = t)) m0 m → (0 ≤ y ∧ y ≤ 6 ∧ 0 ≤ w ∧ w ≤ y ∧ 3 ≤ z ∧ z ≤ 3 + 300 * w) → (y = (zBat m0 (101 + 7 * t + 0)) 2 ∧ 256 * (zBat m0 (101 + 7 * t + 0)) 0 + (zBat m0 (101 + 7 * t + 0)) 1 = (m0.1 26 t 7)) → (z = zat (zBat m0 (101 + 7 * t + 0)) w.toNat) → (∀ j : Nat, (j : Int) < w → zMk (zBat m0 (101 + 7 * t + 0)) j) → (∀ j : Nat, (j : Int) < w → zTm m t (zBat m0 (101 + 7 * t + 0)) j) → (∀ j : Nat, m.1 26 t j = m0.1 26 t j) →  wW (zK sc) zM156 41 [(0, .inr (.inr (.inl (some (26, t))))), (1, .inr (.inr (.inl (some (1, 101 + 7 * t + 0))))), (2, .inl y), (3, .inl z), (4, .inl w)] [] n m (wr (fun vv n1 m1 => ∃ r : Int, vv = some (.inl r) ∧ n = n1 ∧ zB c m1 ∧ zfr (fun k i j => (k = 26 ∧ i = t ∧ 9 ≤ j ∧ j ≤ 10) ∨ (30 ≤ k ∧ k ≤ 33 ∧ i = t)) m0 m1 ∧ ((r = 1 ∧ zMan (m0.1 1 (101 + 7 * t + 0) 1) (m0.1 26 t 7) (zBat m0 (101 + 7 * t + 0)) ∧ m1.1 26 t 9 = (zBat m0 (101 + 7 * t + 0)) 2 ∧ m1.1 26 t 10 = 1 ∧ ∀ j : Nat, (j : Int) < (zBat m0 (101 + 7 * t + 0)) 2 → zTm m1 t (zBat m0 (101 + 7 * t + 0)) j) ∨ (r = 0 ∧ ¬ zMan (m0.1 1 (101 + 7 * t + 0) 1) (m0.1 26 t 7) (zBat m0 (101 + 7 * t + 0)) ∧ ∀ j : Nat, m1.1 26 t j = m0.1 26 t j)))) := by
  intro d
  induction d using Nat.strongRecOn with
  | ind d ih =>
    intro y z w m hd hGm hFm hi hv hz hj ht h26
    have zl9 := zlim_le (101 + 7 * t + 0)
    have hs9 : m.1 1 (101 + 7 * t + 0) 1 = (m0.1 1 (101 + 7 * t + 0) 1) := (hFm 1 (101 + 7 * t + 0) 1 (show ¬ ((1 = 26 ∧ ((101 + 7 * t + 0)) = t ∧ 9 ≤ 1 ∧ 1 ≤ 10) ∨ (30 ≤ 1 ∧ 1 ≤ 33 ∧ ((101 + 7 * t + 0)) = t)) from by omega)).1
    refine ww_go 2 (pc' := 44) (L' := [(0, .inr (.inr (.inl (some (26, t))))), (1, .inr (.inr (.inl (some (1, 101 + 7 * t + 0))))), (2, .inl y), (3, .inl z), (4, .inl w)]) (st' := [.inl y, .inl w]) (m' := m) (o := none) rfl trivial ?_
    refine ww_ic (t := 162) rfl rfl (by omega) (fun (h1 : y ≤ w) => ?_) (fun (h1 : ¬ (y ≤ w)) => ?_)
    · show wW (zK sc) zM156 162 [(0, .inr (.inr (.inl (some (26, t))))), (1, .inr (.inr (.inl (some (1, 101 + 7 * t + 0))))), (2, .inl y), (3, .inl z), (4, .inl w)] [] _ _ _
      refine ww_go 2 (pc' := 164) (L' := [(0, .inr (.inr (.inl (some (26, t))))), (1, .inr (.inr (.inl (some (1, 101 + 7 * t + 0))))), (2, .inl y), (3, .inl z), (4, .inl w)]) (st' := [.inr (.inr (.inl (some (1, 101 + 7 * t + 0)))), .inl z]) (m' := m) (o := none) rfl trivial ?_
      refine ww_call (vs := [.inr (.inr (.inl (some (1, 101 + 7 * t + 0))))]) (r := [.inl z]) (p := 101 + 7 * t + 0 < 171) rfl rfl rfl rfl (show 101 + 7 * t + 0 < 171 from by omega) (zs40 (c := c) (by omega) (101 + 7 * t + 0) hGm (by omega)) ?_
      rintro _ _ _ ⟨r2, rfl, rfl, rfl, hr3⟩
      show wW (zK sc) zM156 167 [(0, .inr (.inr (.inl (some (26, t))))), (1, .inr (.inr (.inl (some (1, 101 + 7 * t + 0))))), (2, .inl y), (3, .inl z), (4, .inl w)] [.inl r2, .inl z] _ _ _
      refine ww_ic (t := 172) rfl rfl (by omega) (fun (h4 : z = r2) => ?_) (fun (h4 : ¬ (z = r2)) => ?_)
      · show wW (zK sc) zM156 172 [(0, .inr (.inr (.inl (some (26, t))))), (1, .inr (.inr (.inl (some (1, 101 + 7 * t + 0))))), (2, .inl y), (3, .inl z), (4, .inl w)] [] _ _ _
        refine ww_go 3 (pc' := 177) (L' := [(0, .inr (.inr (.inl (some (26, t))))), (1, .inr (.inr (.inl (some (1, 101 + 7 * t + 0))))), (2, .inl y), (3, .inl z), (4, .inl w)]) (st' := []) (m' := wuI m 26 t 9 y) (o := some ((t < 10))) rfl (show (t < 10) from by omega) ?_
        obtain ⟨m5, hm5⟩ : ∃ zq9 : wm, zq9 = wuI m 26 t 9 y := ⟨_, rfl⟩
        rw [← hm5]
        have hGm5 : zB c m5 := by rw [hm5]; exact zB_wI rfl (show 0 ≤ y ∧ y ≤ 6 from by omega) hGm
        have hFm5 : zfr (fun k i j => (k = 26 ∧ i = t ∧ 9 ≤ j ∧ j ≤ 10) ∨ (30 ≤ k ∧ k ≤ 33 ∧ i = t)) m0 m5 := by rw [hm5]; exact zfr_wI hFm (show (26 = 26 ∧ t = t ∧ 9 ≤ 9 ∧ 9 ≤ 10) ∨ (30 ≤ 26 ∧ 26 ≤ 33 ∧ t = t) from Or.inl ((show (26 = 26 ∧ t = t ∧ 9 ≤ 9 ∧ 9 ≤ 10) from by omega)))
        have s6 : m5.1 26 t 9 = y := by rw [hm5]; exact wuI_self
        refine ww_go 3 (pc' := 182) (L' := [(0, .inr (.inr (.inl (some (26, t))))), (1, .inr (.inr (.inl (some (1, 101 + 7 * t + 0))))), (2, .inl y), (3, .inl z), (4, .inl w)]) (st' := []) (m' := wuI m5 26 t 10 1) (o := some ((t < 10 ∧ 0 ≤ (1 : Int) ∧ (1 : Int) ≤ 1))) rfl (show (t < 10 ∧ 0 ≤ (1 : Int) ∧ (1 : Int) ≤ 1) from by omega) ?_
        obtain ⟨m7, hm7⟩ : ∃ zq9 : wm, zq9 = wuI m5 26 t 10 1 := ⟨_, rfl⟩
        rw [← hm7]
        have hGm7 : zB c m7 := by rw [hm7]; exact zB_wI rfl (show 0 ≤ (1 : Int) ∧ (1 : Int) ≤ 1 from by omega) hGm5
        have hFm7 : zfr (fun k i j => (k = 26 ∧ i = t ∧ 9 ≤ j ∧ j ≤ 10) ∨ (30 ≤ k ∧ k ≤ 33 ∧ i = t)) m0 m7 := by rw [hm7]; exact zfr_wI hFm5 (show (26 = 26 ∧ t = t ∧ 9 ≤ 10 ∧ 10 ≤ 10) ∨ (30 ≤ 26 ∧ 26 ≤ 33 ∧ t = t) from Or.inl ((show (26 = 26 ∧ t = t ∧ 9 ≤ 10 ∧ 10 ≤ 10) from by omega)))
        have s8 : m7.1 26 t 10 = (1 : Int) := by rw [hm7]; exact wuI_self
        refine ww_go 1 (pc' := 183) (L' := [(0, .inr (.inr (.inl (some (26, t))))), (1, .inr (.inr (.inl (some (1, 101 + 7 * t + 0))))), (2, .inl y), (3, .inl z), (4, .inl w)]) (st' := [.inl 1]) (m' := m7) (o := none) rfl trivial ?_
        exact ww_rB rfl rfl (by omega) ⟨_, rfl, rfl, zB_mono hGm7 (by omega), hFm7, Or.inl ⟨rfl, zMan_y (fun a => (zBat_rg hG _ a).1) hv.2 (by omega) (fun j z => hj j (by omega)) (by rw [show ((zBat m0 (101 + 7 * t + 0)) 2).toNat = w.toNat from by omega, ← hz]; omega), (by rw [hm7, wuI_nj (by omega)]; omega), by omega, fun j z => (by have z9 := ht j (by omega); unfold zTm at z9 ⊢; rw [hm7, hm5]; exact z9)⟩⟩
      · show wW (zK sc) zM156 170 [(0, .inr (.inr (.inl (some (26, t))))), (1, .inr (.inr (.inl (some (1, 101 + 7 * t + 0))))), (2, .inl y), (3, .inl z), (4, .inl w)] [] _ _ _
        refine ww_go 1 (pc' := 171) (L' := [(0, .inr (.inr (.inl (some (26, t))))), (1, .inr (.inr (.inl (some (1, 101 + 7 * t + 0))))), (2, .inl y), (3, .inl z), (4, .inl w)]) (st' := [.inl 0]) (m' := m) (o := none) rfl trivial ?_
        exact ww_rB rfl rfl (by omega) ⟨_, rfl, rfl, zB_mono hGm (by omega), hFm, Or.inr ⟨rfl, fun zm => absurd (zMan_k zm).2.2.2 (by rw [show ((zBat m0 (101 + 7 * t + 0)) 2).toNat = w.toNat from by omega, ← hz]; omega), h26⟩⟩
    · show wW (zK sc) zM156 47 [(0, .inr (.inr (.inl (some (26, t))))), (1, .inr (.inr (.inl (some (1, 101 + 7 * t + 0))))), (2, .inl y), (3, .inl z), (4, .inl w)] [] _ _ _
      refine ww_go 7 (pc' := 57) (L' := [(0, .inr (.inr (.inl (some (26, t))))), (1, .inr (.inr (.inl (some (1, 101 + 7 * t + 0))))), (2, .inl y), (3, .inl z), (4, .inl w)]) (st' := []) (m' := wuI m 30 t w.toNat (z + 1)) (o := some ((t < 10) ∧ (t < 10 ∧ 0 ≤ w ∧ w < ((6 : Nat) : Int)))) rfl (show (t < 10) ∧ (t < 10 ∧ 0 ≤ w ∧ w < ((6 : Nat) : Int)) from by omega) ?_
      obtain ⟨m9, hm9⟩ : ∃ zq9 : wm, zq9 = wuI m 30 t w.toNat (z + 1) := ⟨_, rfl⟩
      rw [← hm9]
      have hGm9 : zB c m9 := by rw [hm9]; exact zB_wI rfl (show 0 ≤ z + 1 ∧ z + 1 ≤ 10000 from by omega) hGm
      have hFm9 : zfr (fun k i j => (k = 26 ∧ i = t ∧ 9 ≤ j ∧ j ≤ 10) ∨ (30 ≤ k ∧ k ≤ 33 ∧ i = t)) m0 m9 := by rw [hm9]; exact zfr_wI hFm (show (30 = 26 ∧ t = t ∧ 9 ≤ w.toNat ∧ w.toNat ≤ 10) ∨ (30 ≤ 30 ∧ 30 ≤ 33 ∧ t = t) from by omega)
      have s10 : m9.1 30 t w.toNat = z + 1 := by rw [hm9]; exact wuI_self
      refine ww_go 5 (pc' := 65) (L' := [(0, .inr (.inr (.inl (some (26, t))))), (1, .inr (.inr (.inl (some (1, 101 + 7 * t + 0))))), (2, .inl y), (3, .inl z), (4, .inl w)]) (st' := [.inl z, .inr (.inr (.inl (some (1, 101 + 7 * t + 0)))), .inl w, .inr (.inr (.inl (some (31, t))))]) (m' := m9) (o := some ((t < 10))) rfl (show (t < 10) from by omega) ?_
      refine ww_call (vs := [.inr (.inr (.inl (some (1, 101 + 7 * t + 0)))), .inl z]) (r := [.inl w, .inr (.inr (.inl (some (31, t))))]) (p := 101 + 7 * t + 0 < 171) rfl rfl rfl rfl (show 101 + 7 * t + 0 < 171 from by omega) (zs28 (c := c) (by omega) z (101 + 7 * t + 0) hGm9 (by omega)) ?_
      rintro _ _ _ ⟨r11, rfl, rfl, rfl, hr12⟩
      show wW (zK sc) zM156 68 [(0, .inr (.inr (.inl (some (26, t))))), (1, .inr (.inr (.inl (some (1, 101 + 7 * t + 0))))), (2, .inl y), (3, .inl z), (4, .inl w)] [.inl r11, .inl w, .inr (.inr (.inl (some (31, t))))] _ _ _
      refine ww_go 1 (pc' := 69) (L' := [(0, .inr (.inr (.inl (some (26, t))))), (1, .inr (.inr (.inl (some (1, 101 + 7 * t + 0))))), (2, .inl y), (3, .inl z), (4, .inl w)]) (st' := []) (m' := wuI m9 31 t w.toNat r11) (o := some ((t < 10 ∧ 0 ≤ w ∧ w < ((6 : Nat) : Int)))) rfl (show (t < 10 ∧ 0 ≤ w ∧ w < ((6 : Nat) : Int)) from by omega) ?_
      obtain ⟨m13, hm13⟩ : ∃ zq9 : wm, zq9 = wuI m9 31 t w.toNat r11 := ⟨_, rfl⟩
      rw [← hm13]
      have hGm13 : zB c m13 := by rw [hm13]; exact zB_wI rfl (show 0 ≤ r11 ∧ r11 ≤ 255 from by omega) hGm9
      have hFm13 : zfr (fun k i j => (k = 26 ∧ i = t ∧ 9 ≤ j ∧ j ≤ 10) ∨ (30 ≤ k ∧ k ≤ 33 ∧ i = t)) m0 m13 := by rw [hm13]; exact zfr_wI hFm9 (show (31 = 26 ∧ t = t ∧ 9 ≤ w.toNat ∧ w.toNat ≤ 10) ∨ (30 ≤ 31 ∧ 31 ≤ 33 ∧ t = t) from by omega)
      have s14 : m13.1 31 t w.toNat = r11 := by rw [hm13]; exact wuI_self
      have b15 : 0 ≤ m13.1 31 t w.toNat ∧ m13.1 31 t w.toNat ≤ 255 := hGm13.1 31 _ rfl _ _
      refine ww_go 14 (pc' := 89) (L' := [(3, .inl (z + (1 + (m13.1 31 t w.toNat)))), (0, .inr (.inr (.inl (some (26, t))))), (1, .inr (.inr (.inl (some (1, 101 + 7 * t + 0))))), (2, .inl y), (4, .inl w)]) (st' := [.inl (z + (1 + (m13.1 31 t w.toNat))), .inr (.inr (.inl (some (1, 101 + 7 * t + 0)))), .inl w, .inr (.inr (.inl (some (32, t))))]) (m' := m13) (o := some ((t < 10) ∧ (t < 10 ∧ 0 ≤ w ∧ w < ((6 : Nat) : Int)) ∧ (t < 10))) rfl (show (t < 10) ∧ (t < 10 ∧ 0 ≤ w ∧ w < ((6 : Nat) : Int)) ∧ (t < 10) from by omega) ?_
      refine ww_call (vs := [.inr (.inr (.inl (some (1, 101 + 7 * t + 0)))), .inl (z + (1 + (m13.1 31 t w.toNat)))]) (r := [.inl w, .inr (.inr (.inl (some (32, t))))]) (p := 101 + 7 * t + 0 < 171) rfl rfl rfl rfl (show 101 + 7 * t + 0 < 171 from by omega) (zs28 (c := c) (by omega) (z + (1 + (m13.1 31 t w.toNat))) (101 + 7 * t + 0) hGm13 (by omega)) ?_
      rintro _ _ _ ⟨r16, rfl, rfl, rfl, hr17⟩
      show wW (zK sc) zM156 92 [(3, .inl (z + (1 + (m13.1 31 t w.toNat)))), (0, .inr (.inr (.inl (some (26, t))))), (1, .inr (.inr (.inl (some (1, 101 + 7 * t + 0))))), (2, .inl y), (4, .inl w)] [.inl r16, .inl w, .inr (.inr (.inl (some (32, t))))] _ _ _
      refine ww_go 1 (pc' := 93) (L' := [(3, .inl (z + (1 + (m13.1 31 t w.toNat)))), (0, .inr (.inr (.inl (some (26, t))))), (1, .inr (.inr (.inl (some (1, 101 + 7 * t + 0))))), (2, .inl y), (4, .inl w)]) (st' := []) (m' := wuI m13 32 t w.toNat r16) (o := some ((t < 10 ∧ 0 ≤ w ∧ w < ((6 : Nat) : Int)))) rfl (show (t < 10 ∧ 0 ≤ w ∧ w < ((6 : Nat) : Int)) from by omega) ?_
      obtain ⟨m18, hm18⟩ : ∃ zq9 : wm, zq9 = wuI m13 32 t w.toNat r16 := ⟨_, rfl⟩
      rw [← hm18]
      have hGm18 : zB c m18 := by rw [hm18]; exact zB_wI rfl (show 0 ≤ r16 ∧ r16 ≤ 255 from by omega) hGm13
      have hFm18 : zfr (fun k i j => (k = 26 ∧ i = t ∧ 9 ≤ j ∧ j ≤ 10) ∨ (30 ≤ k ∧ k ≤ 33 ∧ i = t)) m0 m18 := by rw [hm18]; exact zfr_wI hFm13 (show (32 = 26 ∧ t = t ∧ 9 ≤ w.toNat ∧ w.toNat ≤ 10) ∨ (30 ≤ 32 ∧ 32 ≤ 33 ∧ t = t) from by omega)
      have s19 : m18.1 32 t w.toNat = r16 := by rw [hm18]; exact wuI_self
      refine ww_go 8 (pc' := 105) (L' := [(3, .inl (z + (1 + (m13.1 31 t w.toNat)))), (0, .inr (.inr (.inl (some (26, t))))), (1, .inr (.inr (.inl (some (1, 101 + 7 * t + 0))))), (2, .inl y), (4, .inl w)]) (st' := [.inl 8, .inl ((z + (1 + (m13.1 31 t w.toNat))) + 1), .inr (.inr (.inl (some (1, 101 + 7 * t + 0)))), .inl w, .inr (.inr (.inl (some (33, t))))]) (m' := m18) (o := some ((t < 10))) rfl (show (t < 10) from by omega) ?_
      refine ww_call (vs := [.inr (.inr (.inl (some (1, 101 + 7 * t + 0)))), .inl ((z + (1 + (m13.1 31 t w.toNat))) + 1), .inl 8]) (r := [.inl w, .inr (.inr (.inl (some (33, t))))]) (p := 101 + 7 * t + 0 < 171) rfl rfl rfl rfl (show 101 + 7 * t + 0 < 171 from by omega) (zs36 (c := c) (by omega) ((z + (1 + (m13.1 31 t w.toNat))) + 1) 8 (101 + 7 * t + 0) hGm18 (by omega)) ?_
      rintro _ _ _ ⟨r20, rfl, rfl, rfl, hr21⟩
      show wW (zK sc) zM156 108 [(3, .inl (z + (1 + (m13.1 31 t w.toNat)))), (0, .inr (.inr (.inl (some (26, t))))), (1, .inr (.inr (.inl (some (1, 101 + 7 * t + 0))))), (2, .inl y), (4, .inl w)] [.inr (.inl r20), .inl w, .inr (.inr (.inl (some (33, t))))] _ _ _
      refine ww_go 1 (pc' := 109) (L' := [(3, .inl (z + (1 + (m13.1 31 t w.toNat)))), (0, .inr (.inr (.inl (some (26, t))))), (1, .inr (.inr (.inl (some (1, 101 + 7 * t + 0))))), (2, .inl y), (4, .inl w)]) (st' := []) (m' := wuL m18 33 t w.toNat r20) (o := some ((t < 10 ∧ 0 ≤ w ∧ w < ((6 : Nat) : Int)))) rfl (show (t < 10 ∧ 0 ≤ w ∧ w < ((6 : Nat) : Int)) from by omega) ?_
      obtain ⟨m22, hm22⟩ : ∃ zq9 : wm, zq9 = wuL m18 33 t w.toNat r20 := ⟨_, rfl⟩
      rw [← hm22]
      have hGm22 : zB c m22 := by rw [hm22]; exact zB_wL hGm18
      have hFm22 : zfr (fun k i j => (k = 26 ∧ i = t ∧ 9 ≤ j ∧ j ≤ 10) ∨ (30 ≤ k ∧ k ≤ 33 ∧ i = t)) m0 m22 := by rw [hm22]; exact zfr_wL hFm18 (show (33 = 26 ∧ t = t ∧ 9 ≤ w.toNat ∧ w.toNat ≤ 10) ∨ (30 ≤ 33 ∧ 33 ≤ 33 ∧ t = t) from by omega)
      have b23 : 0 ≤ m22.1 30 t w.toNat ∧ m22.1 30 t w.toNat ≤ 10000 := hGm22.1 30 _ rfl _ _
      have b24 : 0 ≤ m22.1 31 t w.toNat ∧ m22.1 31 t w.toNat ≤ 255 := hGm22.1 31 _ rfl _ _
      refine ww_go 10 (pc' := 127) (L' := [(3, .inl ((z + (1 + (m13.1 31 t w.toNat))) + 9)), (0, .inr (.inr (.inl (some (26, t))))), (1, .inr (.inr (.inl (some (1, 101 + 7 * t + 0))))), (2, .inl y), (4, .inl w)]) (st' := [.inl (m22.1 31 t w.toNat), .inl (m22.1 30 t w.toNat), .inr (.inr (.inl (some (1, 101 + 7 * t + 0))))]) (m' := m22) (o := some ((t < 10) ∧ (t < 10 ∧ 0 ≤ w ∧ w < ((6 : Nat) : Int)) ∧ (t < 10) ∧ (t < 10 ∧ 0 ≤ w ∧ w < ((6 : Nat) : Int)))) rfl (show (t < 10) ∧ (t < 10 ∧ 0 ≤ w ∧ w < ((6 : Nat) : Int)) ∧ (t < 10) ∧ (t < 10 ∧ 0 ≤ w ∧ w < ((6 : Nat) : Int)) from by omega) ?_
      refine ww_call (vs := [.inr (.inr (.inl (some (1, 101 + 7 * t + 0)))), .inl (m22.1 30 t w.toNat), .inl (m22.1 31 t w.toNat)]) (r := []) (p := 101 + 7 * t + 0 < 171) rfl rfl rfl rfl (show 101 + 7 * t + 0 < 171 from by omega) (zs34 (c := c) (by omega) (m22.1 30 t w.toNat) (m22.1 31 t w.toNat) (101 + 7 * t + 0) hGm22 (by omega)) ?_
      rintro _ _ _ ⟨r25, rfl, rfl, rfl, hr26⟩
      have hbM : ∀ a, zBat m22 (101 + 7 * t + 0) a = (zBat m0 (101 + 7 * t + 0)) a := (fun a => zBat_fr a hFm22 (show ¬ ((1 = 26 ∧ ((101 + 7 * t + 0)) = t ∧ 9 ≤ 1 ∧ 1 ≤ 10) ∨ (30 ≤ 1 ∧ 1 ≤ 33 ∧ ((101 + 7 * t + 0)) = t)) from by omega) (fun j => (show ¬ ((2 = 26 ∧ ((101 + 7 * t + 0)) = t ∧ 9 ≤ j ∧ j ≤ 10) ∨ (30 ≤ 2 ∧ 2 ≤ 33 ∧ ((101 + 7 * t + 0)) = t)) from by omega)))
      have zx8 : r11 = (zBat m0 (101 + 7 * t + 0)) z := by rw [hr12.1]; exact (fun a => zBat_fr a hFm9 (show ¬ ((1 = 26 ∧ ((101 + 7 * t + 0)) = t ∧ 9 ≤ 1 ∧ 1 ≤ 10) ∨ (30 ≤ 1 ∧ 1 ≤ 33 ∧ ((101 + 7 * t + 0)) = t)) from by omega) (fun j => (show ¬ ((2 = 26 ∧ ((101 + 7 * t + 0)) = t ∧ 9 ≤ j ∧ j ≤ 10) ∨ (30 ≤ 2 ∧ 2 ≤ 33 ∧ ((101 + 7 * t + 0)) = t)) from by omega))) z
      have zy8 : r16 = (zBat m0 (101 + 7 * t + 0)) (z + 1 + r11) := by rw [hr17.1, show z + (1 + (m13.1 31 t w.toNat)) = z + 1 + r11 from by omega]; exact (fun a => zBat_fr a hFm13 (show ¬ ((1 = 26 ∧ ((101 + 7 * t + 0)) = t ∧ 9 ≤ 1 ∧ 1 ≤ 10) ∨ (30 ≤ 1 ∧ 1 ≤ 33 ∧ ((101 + 7 * t + 0)) = t)) from by omega) (fun j => (show ¬ ((2 = 26 ∧ ((101 + 7 * t + 0)) = t ∧ 9 ≤ j ∧ j ≤ 10) ∨ (30 ≤ 2 ∧ 2 ≤ 33 ∧ ((101 + 7 * t + 0)) = t)) from by omega))) _
      have zv8 : r20 = zen (fun k => (zBat m0 (101 + 7 * t + 0)) (z + 2 + r11 + (k : Int))) 8 := (hr21.2 (by omega)).trans (zen_c (fun k hk => (by rw [zBR_b, show ((((z + (1 + (m13.1 31 t w.toNat))) + 1).toNat + k : Nat) : Int) = z + 2 + r11 + (k : Int) from by omega]; exact (fun a => zBat_fr a hFm18 (show ¬ ((1 = 26 ∧ ((101 + 7 * t + 0)) = t ∧ 9 ≤ 1 ∧ 1 ≤ 10) ∨ (30 ≤ 1 ∧ 1 ≤ 33 ∧ ((101 + 7 * t + 0)) = t)) from by omega) (fun j => (show ¬ ((2 = 26 ∧ ((101 + 7 * t + 0)) = t ∧ 9 ≤ j ∧ j ≤ 10) ∨ (30 ≤ 2 ∧ 2 ≤ 33 ∧ ((101 + 7 * t + 0)) = t)) from by omega))) _)))
      have zt8 := zTm_s hm9 hm13 hm18 hm22 hz zx8 zy8 zv8 ht (by omega)
      have zz8 : zTm m22 t (zBat m0 (101 + 7 * t + 0)) w.toNat := zt8 w.toNat (by omega)
      have z26 : ∀ j : Nat, m22.1 26 t j = m0.1 26 t j := fun j => (by rw [hm22, hm18, hm13, hm9]; exact h26 j)
      show wW (zK sc) zM156 130 [(3, .inl ((z + (1 + (m13.1 31 t w.toNat))) + 9)), (0, .inr (.inr (.inl (some (26, t))))), (1, .inr (.inr (.inl (some (1, 101 + 7 * t + 0))))), (2, .inl y), (4, .inl w)] [.inl r25] _ _ _
      refine ww_if (t := 154) rfl rfl (by omega) (fun (h27 : r25 = 0) => ?_) (fun (h27 : ¬ (r25 = 0)) => ?_)
      · show wW (zK sc) zM156 154 [(3, .inl ((z + (1 + (m13.1 31 t w.toNat))) + 9)), (0, .inr (.inr (.inl (some (26, t))))), (1, .inr (.inr (.inl (some (1, 101 + 7 * t + 0))))), (2, .inl y), (4, .inl w)] [] _ _ _
        refine ww_go 1 (pc' := 155) (L' := [(3, .inl ((z + (1 + (m13.1 31 t w.toNat))) + 9)), (0, .inr (.inr (.inl (some (26, t))))), (1, .inr (.inr (.inl (some (1, 101 + 7 * t + 0))))), (2, .inl y), (4, .inl w)]) (st' := [.inl 0]) (m' := m22) (o := none) rfl trivial ?_
        exact ww_rB rfl rfl (by omega) ⟨_, rfl, rfl, zB_mono hGm22 (by omega), hFm22, (by first | exact Or.inr ⟨rfl, fun zm => hr26.elim (fun z => absurd z.1 (by omega)) (fun z => z.2 ((zNx_k hbM zz8).2 ((zMan_k zm).2.2.1 w.toNat (by omega)).1)), z26⟩ | exact Or.inr ⟨rfl, fun zm => absurd ((zMan_k zm).2.2.1 w.toNat (by omega)).2.1 (by have z9 := zz8.2.2.1; omega), z26⟩)⟩
      · show wW (zK sc) zM156 133 [(3, .inl ((z + (1 + (m13.1 31 t w.toNat))) + 9)), (0, .inr (.inr (.inl (some (26, t))))), (1, .inr (.inr (.inl (some (1, 101 + 7 * t + 0))))), (2, .inl y), (4, .inl w)] [] _ _ _
        have b28 : 0 ≤ m22.1 32 t w.toNat ∧ m22.1 32 t w.toNat ≤ 255 := hGm22.1 32 _ rfl _ _
        refine ww_go 5 (pc' := 142) (L' := [(3, .inl ((z + (1 + (m13.1 31 t w.toNat))) + 9)), (0, .inr (.inr (.inl (some (26, t))))), (1, .inr (.inr (.inl (some (1, 101 + 7 * t + 0))))), (2, .inl y), (4, .inl w)]) (st' := [.inl 96, .inl (m22.1 32 t w.toNat)]) (m' := m22) (o := some ((t < 10) ∧ (t < 10 ∧ 0 ≤ w ∧ w < ((6 : Nat) : Int)))) rfl (show (t < 10) ∧ (t < 10 ∧ 0 ≤ w ∧ w < ((6 : Nat) : Int)) from by omega) ?_
        refine ww_ic (t := 154) rfl rfl (by omega) (fun (h29 : 96 < m22.1 32 t w.toNat) => ?_) (fun (h29 : ¬ (96 < m22.1 32 t w.toNat)) => ?_)
        · show wW (zK sc) zM156 154 [(3, .inl ((z + (1 + (m13.1 31 t w.toNat))) + 9)), (0, .inr (.inr (.inl (some (26, t))))), (1, .inr (.inr (.inl (some (1, 101 + 7 * t + 0))))), (2, .inl y), (4, .inl w)] [] _ _ _
          refine ww_go 1 (pc' := 155) (L' := [(3, .inl ((z + (1 + (m13.1 31 t w.toNat))) + 9)), (0, .inr (.inr (.inl (some (26, t))))), (1, .inr (.inr (.inl (some (1, 101 + 7 * t + 0))))), (2, .inl y), (4, .inl w)]) (st' := [.inl 0]) (m' := m22) (o := none) rfl trivial ?_
          exact ww_rB rfl rfl (by omega) ⟨_, rfl, rfl, zB_mono hGm22 (by omega), hFm22, (by first | exact Or.inr ⟨rfl, fun zm => hr26.elim (fun z => absurd z.1 (by omega)) (fun z => z.2 ((zNx_k hbM zz8).2 ((zMan_k zm).2.2.1 w.toNat (by omega)).1)), z26⟩ | exact Or.inr ⟨rfl, fun zm => absurd ((zMan_k zm).2.2.1 w.toNat (by omega)).2.1 (by have z9 := zz8.2.2.1; omega), z26⟩)⟩
        · show wW (zK sc) zM156 145 [(3, .inl ((z + (1 + (m13.1 31 t w.toNat))) + 9)), (0, .inr (.inr (.inl (some (26, t))))), (1, .inr (.inr (.inl (some (1, 101 + 7 * t + 0))))), (2, .inl y), (4, .inl w)] [] _ _ _
          refine ww_go 2 (pc' := 148) (L' := [(3, .inl ((z + (1 + (m13.1 31 t w.toNat))) + 9)), (0, .inr (.inr (.inl (some (26, t))))), (1, .inr (.inr (.inl (some (1, 101 + 7 * t + 0))))), (2, .inl y), (4, .inl w)]) (st' := [.inl w, .inr (.inr (.inl (some (26, t))))]) (m' := m22) (o := none) rfl trivial ?_
          refine ww_call (vs := [.inr (.inr (.inl (some (26, t)))), .inl w]) (r := []) (p := t < 10) rfl rfl rfl rfl (show t < 10 from by omega) (yt147 (c := c) (by omega) w t hGm22 (by omega)) ?_
          rintro _ _ _ ⟨r30, rfl, rfl, rfl, hr31⟩
          show wW (zK sc) zM156 151 [(3, .inl ((z + (1 + (m13.1 31 t w.toNat))) + 9)), (0, .inr (.inr (.inl (some (26, t))))), (1, .inr (.inr (.inl (some (1, 101 + 7 * t + 0))))), (2, .inl y), (4, .inl w)] [.inl r30] _ _ _
          refine ww_if (t := 156) rfl rfl (by omega) (fun (h32 : r30 ≠ 0) => ?_) (fun (h32 : ¬ (r30 ≠ 0)) => ?_)
          · show wW (zK sc) zM156 156 [(3, .inl ((z + (1 + (m13.1 31 t w.toNat))) + 9)), (0, .inr (.inr (.inl (some (26, t))))), (1, .inr (.inr (.inl (some (1, 101 + 7 * t + 0))))), (2, .inl y), (4, .inl w)] [] _ _ _
            refine ww_go 2 (pc' := 41) (L' := [(4, .inl (w + 1)), (3, .inl ((z + (1 + (m13.1 31 t w.toNat))) + 9)), (0, .inr (.inr (.inl (some (26, t))))), (1, .inr (.inr (.inl (some (1, 101 + 7 * t + 0))))), (2, .inl y)]) (st' := []) (m' := m22) (o := none) rfl trivial ?_
            refine ww_sub (L := [(0, .inr (.inr (.inl (some (26, t))))), (1, .inr (.inr (.inl (some (1, 101 + 7 * t + 0))))), (2, .inl y), (3, .inl ((z + (1 + (m13.1 31 t w.toNat))) + 9)), (4, .inl (w + 1))]) ⟨rfl, rfl, rfl, rfl, rfl, trivial⟩ rfl rfl ?_
            exact (ih _ (by omega)) y ((z + (1 + (m13.1 31 t w.toNat))) + 9) (w + 1) m22 rfl (zB_mono hGm22 (by omega)) hFm22 (by omega) (by exact hv) (by rw [show (w + 1).toNat = w.toNat + 1 from by omega]; show _ = zat (zBat m0 (101 + 7 * t + 0)) w.toNat + 10 + (zBat m0 (101 + 7 * t + 0)) (zat (zBat m0 (101 + 7 * t + 0)) w.toNat); rw [← hz, ← zx8]; omega) (by exact fun j z => (Decidable.em ((j : Int) < w)).elim (fun z8 => hj j z8) (fun z8 => (by rw [show j = w.toNat from by omega]; exact ⟨hr26.elim (fun z => (zNx_k hbM zz8).1 z.2) (fun z => absurd z.1 (by omega)), (by have z9 := zz8.2.2.1; omega), hr31.elim (fun z => (zBl_k (by omega) hbM zz8 (fun hn => zt8 _ (by omega))).1 z.2) (fun z => absurd z.1 (by omega))⟩))) (by exact zt8) (by exact z26)
          · show wW (zK sc) zM156 154 [(3, .inl ((z + (1 + (m13.1 31 t w.toNat))) + 9)), (0, .inr (.inr (.inl (some (26, t))))), (1, .inr (.inr (.inl (some (1, 101 + 7 * t + 0))))), (2, .inl y), (4, .inl w)] [] _ _ _
            refine ww_go 1 (pc' := 155) (L' := [(3, .inl ((z + (1 + (m13.1 31 t w.toNat))) + 9)), (0, .inr (.inr (.inl (some (26, t))))), (1, .inr (.inr (.inl (some (1, 101 + 7 * t + 0))))), (2, .inl y), (4, .inl w)]) (st' := [.inl 0]) (m' := m22) (o := none) rfl trivial ?_
            exact ww_rB rfl rfl (by omega) ⟨_, rfl, rfl, zB_mono hGm22 (by omega), hFm22, Or.inr ⟨rfl, fun zm => hr31.elim (fun z => absurd z.1 (by omega)) (fun z => z.2 ((zBl_k (by omega) hbM zz8 (fun hn => zt8 _ (by omega))).2 ((zMan_k zm).2.2.1 w.toNat (by omega)).2.2)), z26⟩⟩
set_option maxRecDepth 8000 in
/-- Version.readManifest -/
theorem yt156 {sc : xSc} {n : Nat × Nat} {m0 : wm} {c : Int} (hc : 0 ≤ c ∧ c ≤ 1000000) (t : Nat) (hG : zB c m0) (h0 : t < 10) : wX (zK sc) 156 [.inr (.inr (.inl (some (26, t))))] n m0 (wr (fun vv n1 m1 => ∃ r : Int, vv = some (.inl r) ∧ n = n1 ∧ zB c m1 ∧ zfr (fun k i j => (k = 26 ∧ i = t ∧ 9 ≤ j ∧ j ≤ 10) ∨ (30 ≤ k ∧ k ≤ 33 ∧ i = t)) m0 m1 ∧ ((r = 1 ∧ zMan (m0.1 1 (101 + 7 * t + 0) 1) (m0.1 26 t 7) (zBat m0 (101 + 7 * t + 0)) ∧ m1.1 26 t 9 = (zBat m0 (101 + 7 * t + 0)) 2 ∧ m1.1 26 t 10 = 1 ∧ ∀ j : Nat, (j : Int) < (zBat m0 (101 + 7 * t + 0)) 2 → zTm m1 t (zBat m0 (101 + 7 * t + 0)) j) ∨ (r = 0 ∧ ¬ zMan (m0.1 1 (101 + 7 * t + 0) 1) (m0.1 26 t 7) (zBat m0 (101 + 7 * t + 0)) ∧ ∀ j : Nat, m1.1 26 t j = m0.1 26 t j)))) := by
  refine wX_of (N := zM156) rfl (Nat.le_of_ble_eq_true rfl) ?_
  show wW (zK sc) zM156 0 [(0, .inr (.inr (.inl (some (26, t)))))] [] n m0 _
  have hF : zfr (fun k i j => (k = 26 ∧ i = t ∧ 9 ≤ j ∧ j ≤ 10) ∨ (30 ≤ k ∧ k ≤ 33 ∧ i = t)) m0 m0 := zfr_rf
  refine ww_go 7 (pc' := 9) (L' := [(1, .inr (.inr (.inl (some (1, 101 + 7 * t + 0))))), (0, .inr (.inr (.inl (some (26, t)))))]) (st' := [.inl 2, .inr (.inr (.inl (some (1, 101 + 7 * t + 0))))]) (m' := m0) (o := some ((t < 10) ∧ (t < 10 ∧ 0 ≤ (0 : Int) ∧ (0 : Int) < ((7 : Nat) : Int)))) rfl (show (t < 10) ∧ (t < 10 ∧ 0 ≤ (0 : Int) ∧ (0 : Int) < ((7 : Nat) : Int)) from by omega) ?_
  refine ww_call (vs := [.inr (.inr (.inl (some (1, 101 + 7 * t + 0)))), .inl 2]) (r := []) (p := 101 + 7 * t + 0 < 171) rfl rfl rfl rfl (show 101 + 7 * t + 0 < 171 from by omega) (zs28 (c := c) (by omega) 2 (101 + 7 * t + 0) hG (by omega)) ?_
  rintro _ _ _ ⟨r1, rfl, rfl, rfl, hr2⟩
  show wW (zK sc) zM156 12 [(1, .inr (.inr (.inl (some (1, 101 + 7 * t + 0))))), (0, .inr (.inr (.inl (some (26, t)))))] [.inl r1] _ _ _
  refine ww_go 4 (pc' := 16) (L' := [(2, .inl r1), (1, .inr (.inr (.inl (some (1, 101 + 7 * t + 0))))), (0, .inr (.inr (.inl (some (26, t)))))]) (st' := [.inl 2, .inl 0, .inr (.inr (.inl (some (1, 101 + 7 * t + 0))))]) (m' := m0) (o := none) rfl trivial ?_
  refine ww_call (vs := [.inr (.inr (.inl (some (1, 101 + 7 * t + 0)))), .inl 0, .inl 2]) (r := []) (p := 101 + 7 * t + 0 < 171) rfl rfl rfl rfl (show 101 + 7 * t + 0 < 171 from by omega) (zs36 (c := c) (by omega) 0 2 (101 + 7 * t + 0) hG (by omega)) ?_
  rintro _ _ _ ⟨r3, rfl, rfl, rfl, hr4⟩
  show wW (zK sc) zM156 19 [(2, .inl r1), (1, .inr (.inr (.inl (some (1, 101 + 7 * t + 0))))), (0, .inr (.inr (.inl (some (26, t)))))] [.inr (.inl r3)] _ _ _
  have b5 : 0 ≤ m0.1 26 t 7 ∧ m0.1 26 t 7 ≤ 65535 := hG.1 26 _ rfl _ _
  have t6 := wlcmp_rg r3 (wi2l (m0.1 26 t 7))
  refine ww_go 4 (pc' := 25) (L' := [(2, .inl r1), (1, .inr (.inr (.inl (some (1, 101 + 7 * t + 0))))), (0, .inr (.inr (.inl (some (26, t)))))]) (st' := [.inl (wlcmp r3 (wi2l (m0.1 26 t 7)))]) (m' := m0) (o := some ((t < 10))) rfl (show (t < 10) from by omega) ?_
  refine ww_if (t := 34) rfl rfl (by omega) (fun (h7 : wlcmp r3 (wi2l (m0.1 26 t 7)) ≠ 0) => ?_) (fun (h7 : ¬ (wlcmp r3 (wi2l (m0.1 26 t 7)) ≠ 0)) => ?_)
  · show wW (zK sc) zM156 34 [(2, .inl r1), (1, .inr (.inr (.inl (some (1, 101 + 7 * t + 0))))), (0, .inr (.inr (.inl (some (26, t)))))] [] _ _ _
    refine ww_go 1 (pc' := 35) (L' := [(2, .inl r1), (1, .inr (.inr (.inl (some (1, 101 + 7 * t + 0))))), (0, .inr (.inr (.inl (some (26, t)))))]) (st' := [.inl 0]) (m' := m0) (o := none) rfl trivial ?_
    have bn9 : 0 ≤ m0.1 26 t 7 ∧ m0.1 26 t 7 ≤ 65535 := hG.1 26 _ rfl _ _
    exact ww_rB rfl rfl (by omega) ⟨_, rfl, rfl, zB_mono hG (by omega), hF, Or.inr ⟨rfl, fun zm => (by first | (have z8 := (zvn_i hG (hr4.2 (by omega)) bn9).2 (zMan_k zm).1; omega) | (have z8 := (zMan_k zm).2.1; have z7 := hr2.1; omega)), fun j => rfl⟩⟩
  · show wW (zK sc) zM156 28 [(2, .inl r1), (1, .inr (.inr (.inl (some (1, 101 + 7 * t + 0))))), (0, .inr (.inr (.inl (some (26, t)))))] [] _ _ _
    refine ww_go 2 (pc' := 31) (L' := [(2, .inl r1), (1, .inr (.inr (.inl (some (1, 101 + 7 * t + 0))))), (0, .inr (.inr (.inl (some (26, t)))))]) (st' := [.inl 6, .inl r1]) (m' := m0) (o := none) rfl trivial ?_
    refine ww_ic (t := 36) rfl rfl (by omega) (fun (h8 : r1 ≤ 6) => ?_) (fun (h8 : ¬ (r1 ≤ 6)) => ?_)
    · show wW (zK sc) zM156 36 [(2, .inl r1), (1, .inr (.inr (.inl (some (1, 101 + 7 * t + 0))))), (0, .inr (.inr (.inl (some (26, t)))))] [] _ _ _
      refine ww_go 4 (pc' := 41) (L' := [(4, .inl 0), (3, .inl 3), (2, .inl r1), (1, .inr (.inr (.inl (some (1, 101 + 7 * t + 0))))), (0, .inr (.inr (.inl (some (26, t)))))]) (st' := []) (m' := m0) (o := none) rfl trivial ?_
      refine ww_sub (L := [(0, .inr (.inr (.inl (some (26, t))))), (1, .inr (.inr (.inl (some (1, 101 + 7 * t + 0))))), (2, .inl r1), (3, .inl 3), (4, .inl 0)]) ⟨rfl, rfl, rfl, rfl, rfl, trivial⟩ rfl rfl ?_
      exact (yt156_l41 hc t hG h0 _) r1 3 0 m0 rfl (zB_mono hG (by omega)) hF (by omega) (by have bn9 : 0 ≤ m0.1 26 t 7 ∧ m0.1 26 t 7 ≤ 65535 := hG.1 26 _ rfl _ _; exact ⟨hr2.1, (zvn_i hG (hr4.2 (by omega)) bn9).1 (by omega)⟩) (by rfl) (by exact fun j z => absurd z (by omega)) (by exact fun j z => absurd z (by omega)) (by exact fun j => rfl)
    · show wW (zK sc) zM156 34 [(2, .inl r1), (1, .inr (.inr (.inl (some (1, 101 + 7 * t + 0))))), (0, .inr (.inr (.inl (some (26, t)))))] [] _ _ _
      refine ww_go 1 (pc' := 35) (L' := [(2, .inl r1), (1, .inr (.inr (.inl (some (1, 101 + 7 * t + 0))))), (0, .inr (.inr (.inl (some (26, t)))))]) (st' := [.inl 0]) (m' := m0) (o := none) rfl trivial ?_
      have bn9 : 0 ≤ m0.1 26 t 7 ∧ m0.1 26 t 7 ≤ 65535 := hG.1 26 _ rfl _ _
      exact ww_rB rfl rfl (by omega) ⟨_, rfl, rfl, zB_mono hG (by omega), hF, Or.inr ⟨rfl, fun zm => (by first | (have z8 := (zvn_i hG (hr4.2 (by omega)) bn9).2 (zMan_k zm).1; omega) | (have z8 := (zMan_k zm).2.1; have z7 := hr2.1; omega)), fun j => rfl⟩⟩
