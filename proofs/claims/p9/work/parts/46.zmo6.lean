set_option maxRecDepth 8000 in
theorem zs239_l15 {sc : xSc} {n : Nat × Nat} {m0 : wm} {c : Int} (hc : 0 ≤ c ∧ c ≤ 1000000)  (hG : zB c m0) (hR : zRI m0) : ∀ (d : Nat), ∀ (w : Int) (k : Int) (m : wm), (8 - k).toNat = d → zB c m → zfr (fun k i j => (k = 58) ∨ (k = 59) ∨ (k = 60) ∨ (k = 61) ∨ (k = 34 ∧ j = 30) ∨ (k = 54)) m0 m → zRI m → (-1 ≤ w ∧ w ≤ 7 ∧ 0 ≤ k ∧ k ≤ 8) → (m = m0) → (0 ≤ w → zHit m (m.1 34 0 30) (7 * w) (7 * w + 6)) →  wW (zK sc) zM239 15 [(0, .inr (.inr (.inl (some (34, 0))))), (1, .inl w), (2, .inl k)] [] n m (wr (fun vv n1 m1 => ∃ r : Int, vv = some (.inl r) ∧ n = n1 ∧ zB c m1 ∧ zfr (fun k i j => (k = 58) ∨ (k = 59) ∨ (k = 60) ∨ (k = 61) ∨ (k = 34 ∧ j = 30) ∨ (k = 54)) m0 m1 ∧ (zRI m1 ∧ ((r = 0 ∨ r = 1) ∧ (r = 1 → m1.1 34 0 30 ≤ 23) ∧ zUs m0 m1)))) := by
  intro d
  induction d using Nat.strongRecOn with
  | ind d ih =>
    intro w k m hd hGm hFm hRm hi hm0 he
    have q0 : 0 ≤ m.1 34 0 30 ∧ m.1 34 0 30 ≤ 24 := hGm.1 34 _ rfl _ _
    refine ww_go 2 (pc' := 18) (L' := [(0, .inr (.inr (.inl (some (34, 0))))), (1, .inl w), (2, .inl k)]) (st' := [.inl 8, .inl k]) (m' := m) (o := none) rfl trivial ?_
    refine ww_ic (t := 63) rfl rfl (by omega) (fun (h1 : 8 ≤ k) => ?_) (fun (h1 : ¬ (8 ≤ k)) => ?_)
    · show wW (zK sc) zM239 63 [(0, .inr (.inr (.inl (some (34, 0))))), (1, .inl w), (2, .inl k)] [] _ _ _
      refine ww_go 1 (pc' := 64) (L' := [(0, .inr (.inr (.inl (some (34, 0))))), (1, .inl w), (2, .inl k)]) (st' := [.inl w]) (m' := m) (o := none) rfl trivial ?_
      refine ww_if (t := 69) rfl rfl (by omega) (fun (h2 : 0 ≤ w) => ?_) (fun (h2 : ¬ (0 ≤ w)) => ?_)
      · show wW (zK sc) zM239 69 [(0, .inr (.inr (.inl (some (34, 0))))), (1, .inl w), (2, .inl k)] [] _ _ _
        refine ww_go 10 (pc' := 82) (L' := [(0, .inr (.inr (.inl (some (34, 0))))), (1, .inl w), (2, .inl k)]) (st' := [.inl ((-1)), .inl ((7 * w) + 6), .inl (7 * w), .inr (.inr (.inl (some (34, 0))))]) (m' := m) (o := none) rfl trivial ?_
        refine ww_call (vs := [.inr (.inr (.inl (some (34, 0)))), .inl (7 * w), .inl ((7 * w) + 6), .inl ((-1))]) (r := []) (p := 0 < 1) rfl rfl rfl rfl (show 0 < 1 from by omega) (zs192 (c := c) (by omega) (7 * w) ((7 * w) + 6) ((-1)) hGm (by omega)) ?_
        rintro _ _ m5 ⟨rfl, rfl, hGm5, hEm5, hr4⟩
        have hFm5 : zfr (fun k i j => (k = 58) ∨ (k = 59) ∨ (k = 60) ∨ (k = 61) ∨ (k = 34 ∧ j = 30) ∨ (k = 54)) m0 m5 := zfr_tr hFm hEm5 (fun k i j z => Or.elim z (fun z => Or.inl z) (fun z => Or.elim z (fun z => Or.inr (Or.inl z)) (fun z => Or.elim z (fun z => Or.inr (Or.inr (Or.inl z))) (fun z => Or.elim z (fun z => Or.inr (Or.inr (Or.inr (Or.inl z)))) (fun z => Or.inr (Or.inr (Or.inr (Or.inr (Or.inl z)))))))))
        have hRm5 : zRI m5 := zRI_fr hRm hEm5 (fun k j hk => (show ¬ ((k = 58) ∨ (k = 59) ∨ (k = 60) ∨ (k = 61) ∨ (k = 34 ∧ j = 30)) from by omega))
        show wW (zK sc) zM239 85 [(0, .inr (.inr (.inl (some (34, 0))))), (1, .inl w), (2, .inl k)] [] _ _ _
        refine ww_go 1 (pc' := 86) (L' := [(0, .inr (.inr (.inl (some (34, 0))))), (1, .inl w), (2, .inl k)]) (st' := [.inr (.inr (.inl (some (34, 0))))]) (m' := m5) (o := none) rfl trivial ?_
        refine ww_call (vs := [.inr (.inr (.inl (some (34, 0))))]) (r := []) (p := 0 < 1) rfl rfl rfl rfl (show 0 < 1 from by omega) (zs254 (c := c) (by omega) hGm5) ?_
        rintro _ _ m8 ⟨rfl, rfl, hGm8, hEm8, hr7⟩
        have hFm8 : zfr (fun k i j => (k = 58) ∨ (k = 59) ∨ (k = 60) ∨ (k = 61) ∨ (k = 34 ∧ j = 30) ∨ (k = 54)) m0 m8 := zfr_tr hFm5 hEm8 (fun k i j z => Or.inr (Or.inr (Or.inr (Or.inr (Or.inr (z))))))
        have w9 : m8.1 34 0 30 = m5.1 34 0 30 := (hEm8 34 0 30 (show ¬ ((34 = 54)) from by omega)).1
        have hRm8 : zRI m8 := zRI_us hRm5 hr7 (by funext j; exact (hEm8 51 0 j (show ¬ ((51 = 54)) from by omega)).1) (by funext j; exact (hEm8 52 0 j (show ¬ ((52 = 54)) from by omega)).1) (by funext j; exact (hEm8 53 0 j (show ¬ ((53 = 54)) from by omega)).1) (by funext j; exact (hEm8 55 0 j (show ¬ ((55 = 54)) from by omega)).1) (by funext j; exact (hEm8 56 0 j (show ¬ ((56 = 54)) from by omega)).1) (by funext j; exact (hEm8 57 0 j (show ¬ ((57 = 54)) from by omega)).1)
        show wW (zK sc) zM239 89 [(0, .inr (.inr (.inl (some (34, 0))))), (1, .inl w), (2, .inl k)] [] _ _ _
        refine ww_go 1 (pc' := 90) (L' := [(0, .inr (.inr (.inl (some (34, 0))))), (1, .inl w), (2, .inl k)]) (st' := [.inl 1]) (m' := m8) (o := none) rfl trivial ?_
        exact ww_rB rfl rfl (by omega) ⟨_, rfl, rfl, zB_mono hGm8 (by omega), hFm8, ⟨hRm8, ⟨Or.inr rfl, fun _ => by have z9 := (hr4).2 (by decide) (he (by omega)); omega, zUs_fr hr7 (show m5.1 54 0 = m0.1 54 0 from by rw [show m5.1 54 0 = m.1 54 0 from by funext j; exact (hEm5 54 0 j (show ¬ ((54 = 58) ∨ (54 = 59) ∨ (54 = 60) ∨ (54 = 61) ∨ (54 = 34 ∧ j = 30)) from by omega)).1, hm0]) (show m5.1 55 0 = m0.1 55 0 from by rw [show m5.1 55 0 = m.1 55 0 from by funext j; exact (hEm5 55 0 j (show ¬ ((55 = 58) ∨ (55 = 59) ∨ (55 = 60) ∨ (55 = 61) ∨ (55 = 34 ∧ j = 30)) from by omega)).1, hm0])⟩⟩⟩
      · show wW (zK sc) zM239 67 [(0, .inr (.inr (.inl (some (34, 0))))), (1, .inl w), (2, .inl k)] [] _ _ _
        refine ww_go 1 (pc' := 68) (L' := [(0, .inr (.inr (.inl (some (34, 0))))), (1, .inl w), (2, .inl k)]) (st' := [.inl 0]) (m' := m) (o := none) rfl trivial ?_
        exact ww_rB rfl rfl (by omega) ⟨_, rfl, rfl, zB_mono hGm (by omega), hFm, ⟨hRm, ⟨by omega, by omega, by rw [hm0]; exact zUs_rf⟩⟩⟩
    · show wW (zK sc) zM239 21 [(0, .inr (.inr (.inl (some (34, 0))))), (1, .inl w), (2, .inl k)] [] _ _ _
      have t10 : (0 ≤ k → k.tmod 4 = k % 4) ∧ (k < 0 → k.tmod 4 = -((-k) % 4)) := ⟨fun z => Int.tmod_eq_emod_of_nonneg z, fun z => wtmod_neg z⟩
      refine ww_go 4 (pc' := 25) (L' := [(0, .inr (.inr (.inl (some (34, 0))))), (1, .inl w), (2, .inl k)]) (st' := [.inl 3, .inl (k.tmod 4)]) (m' := m) (o := some ((-2147483648 ≤ k ∧ k ≤ 2147483647 ∧ 0 < (4 : Int) ∧ (4 : Int) ≤ 2147483647))) rfl (show (-2147483648 ≤ k ∧ k ≤ 2147483647 ∧ 0 < (4 : Int) ∧ (4 : Int) ≤ 2147483647) from by omega) ?_
      refine ww_ic (t := 57) rfl rfl (by omega) (fun (h11 : 3 ≤ k.tmod 4) => ?_) (fun (h11 : ¬ (3 ≤ k.tmod 4)) => ?_)
      · show wW (zK sc) zM239 57 [(0, .inr (.inr (.inl (some (34, 0))))), (1, .inl w), (2, .inl k)] [] _ _ _
        refine ww_go 2 (pc' := 15) (L' := [(2, .inl (k + 1)), (0, .inr (.inr (.inl (some (34, 0))))), (1, .inl w)]) (st' := []) (m' := m) (o := none) rfl trivial ?_
        refine ww_sub (L := [(0, .inr (.inr (.inl (some (34, 0))))), (1, .inl w), (2, .inl (k + 1))]) ⟨rfl, rfl, rfl, trivial⟩ rfl rfl ?_
        exact (ih _ (by omega)) w (k + 1) m rfl (zB_mono hGm (by omega)) hFm hRm (by omega) (by exact hm0) (by exact he)
      · show wW (zK sc) zM239 28 [(0, .inr (.inr (.inl (some (34, 0))))), (1, .inl w), (2, .inl k)] [] _ _ _
        refine ww_go 2 (pc' := 30) (L' := [(0, .inr (.inr (.inl (some (34, 0))))), (1, .inl w), (2, .inl k)]) (st' := [.inl k, .inr (.inr (.inl (some (34, 0))))]) (m' := m) (o := none) rfl trivial ?_
        refine ww_call (vs := [.inr (.inr (.inl (some (34, 0)))), .inl k]) (r := []) (p := 0 < 1) rfl rfl rfl rfl (show 0 < 1 from by omega) (zs201 (c := c) (by omega) k hGm (by omega)) ?_
        rintro _ _ _ ⟨r12, rfl, rfl, rfl, hr13⟩
        show wW (zK sc) zM239 33 [(0, .inr (.inr (.inl (some (34, 0))))), (1, .inl w), (2, .inl k)] [.inl r12] _ _ _
        refine ww_if (t := 57) rfl rfl (by omega) (fun (h14 : r12 = 0) => ?_) (fun (h14 : ¬ (r12 = 0)) => ?_)
        · show wW (zK sc) zM239 57 [(0, .inr (.inr (.inl (some (34, 0))))), (1, .inl w), (2, .inl k)] [] _ _ _
          refine ww_go 2 (pc' := 15) (L' := [(2, .inl (k + 1)), (0, .inr (.inr (.inl (some (34, 0))))), (1, .inl w)]) (st' := []) (m' := m) (o := none) rfl trivial ?_
          refine ww_sub (L := [(0, .inr (.inr (.inl (some (34, 0))))), (1, .inl w), (2, .inl (k + 1))]) ⟨rfl, rfl, rfl, trivial⟩ rfl rfl ?_
          exact (ih _ (by omega)) w (k + 1) m rfl (zB_mono hGm (by omega)) hFm hRm (by omega) (by exact hm0) (by exact he)
        · show wW (zK sc) zM239 36 [(0, .inr (.inr (.inl (some (34, 0))))), (1, .inl w), (2, .inl k)] [] _ _ _
          refine ww_go 1 (pc' := 37) (L' := [(0, .inr (.inr (.inl (some (34, 0))))), (1, .inl w), (2, .inl k)]) (st' := [.inl w]) (m' := m) (o := none) rfl trivial ?_
          refine ww_if (t := 55) rfl rfl (by omega) (fun (h15 : w < 0) => ?_) (fun (h15 : ¬ (w < 0)) => ?_)
          · show wW (zK sc) zM239 55 [(0, .inr (.inr (.inl (some (34, 0))))), (1, .inl w), (2, .inl k)] [] _ _ _
            refine ww_go 4 (pc' := 15) (L' := [(2, .inl (k + 1)), (1, .inl k), (0, .inr (.inr (.inl (some (34, 0)))))]) (st' := []) (m' := m) (o := none) rfl trivial ?_
            refine ww_sub (L := [(0, .inr (.inr (.inl (some (34, 0))))), (1, .inl k), (2, .inl (k + 1))]) ⟨rfl, rfl, rfl, trivial⟩ rfl rfl ?_
            exact (ih _ (by omega)) k (k + 1) m rfl (zB_mono hGm (by omega)) hFm hRm (by omega) (by exact hm0) (by exact fun _ => (hr13).elim (fun z => z.2) (fun z => by omega))
          · show wW (zK sc) zM239 40 [(0, .inr (.inr (.inl (some (34, 0))))), (1, .inl w), (2, .inl k)] [] _ _ _
            have b16 : 0 ≤ m.1 50 0 k.toNat ∧ m.1 50 0 k.toNat ≤ 65535 := hGm.1 50 _ rfl _ _
            have b17 : 0 ≤ m.1 50 0 w.toNat ∧ m.1 50 0 w.toNat ≤ 65535 := hGm.1 50 _ rfl _ _
            refine ww_go 8 (pc' := 52) (L' := [(0, .inr (.inr (.inl (some (34, 0))))), (1, .inl w), (2, .inl k)]) (st' := [.inl (m.1 50 0 w.toNat), .inl (m.1 50 0 k.toNat)]) (m' := m) (o := some ((0 < 1) ∧ (0 < 1 ∧ 0 ≤ k ∧ k < ((8 : Nat) : Int)) ∧ (0 < 1) ∧ (0 < 1 ∧ 0 ≤ w ∧ w < ((8 : Nat) : Int)))) rfl (show (0 < 1) ∧ (0 < 1 ∧ 0 ≤ k ∧ k < ((8 : Nat) : Int)) ∧ (0 < 1) ∧ (0 < 1 ∧ 0 ≤ w ∧ w < ((8 : Nat) : Int)) from by omega) ?_
            refine ww_ic (t := 57) rfl rfl (by omega) (fun (h18 : m.1 50 0 w.toNat ≤ m.1 50 0 k.toNat) => ?_) (fun (h18 : ¬ (m.1 50 0 w.toNat ≤ m.1 50 0 k.toNat)) => ?_)
            · show wW (zK sc) zM239 57 [(0, .inr (.inr (.inl (some (34, 0))))), (1, .inl w), (2, .inl k)] [] _ _ _
              refine ww_go 2 (pc' := 15) (L' := [(2, .inl (k + 1)), (0, .inr (.inr (.inl (some (34, 0))))), (1, .inl w)]) (st' := []) (m' := m) (o := none) rfl trivial ?_
              refine ww_sub (L := [(0, .inr (.inr (.inl (some (34, 0))))), (1, .inl w), (2, .inl (k + 1))]) ⟨rfl, rfl, rfl, trivial⟩ rfl rfl ?_
              exact (ih _ (by omega)) w (k + 1) m rfl (zB_mono hGm (by omega)) hFm hRm (by omega) (by exact hm0) (by exact he)
            · show wW (zK sc) zM239 55 [(0, .inr (.inr (.inl (some (34, 0))))), (1, .inl w), (2, .inl k)] [] _ _ _
              refine ww_go 4 (pc' := 15) (L' := [(2, .inl (k + 1)), (1, .inl k), (0, .inr (.inr (.inl (some (34, 0)))))]) (st' := []) (m' := m) (o := none) rfl trivial ?_
              refine ww_sub (L := [(0, .inr (.inr (.inl (some (34, 0))))), (1, .inl k), (2, .inl (k + 1))]) ⟨rfl, rfl, rfl, trivial⟩ rfl rfl ?_
              exact (ih _ (by omega)) k (k + 1) m rfl (zB_mono hGm (by omega)) hFm hRm (by omega) (by exact hm0) (by exact fun _ => (hr13).elim (fun z => z.2) (fun z => by omega))
set_option maxRecDepth 8000 in
/-- Mo.room -/
theorem zs239 {sc : xSc} {n : Nat × Nat} {m0 : wm} {c : Int} (hc : 0 ≤ c ∧ c ≤ 1000000)  (hG : zB c m0) (hR : zRI m0) : wX (zK sc) 239 [.inr (.inr (.inl (some (34, 0))))] n m0 (wr (fun vv n1 m1 => ∃ r : Int, vv = some (.inl r) ∧ n = n1 ∧ zB c m1 ∧ zfr (fun k i j => (k = 58) ∨ (k = 59) ∨ (k = 60) ∨ (k = 61) ∨ (k = 34 ∧ j = 30) ∨ (k = 54)) m0 m1 ∧ (zRI m1 ∧ ((r = 0 ∨ r = 1) ∧ (r = 1 → m1.1 34 0 30 ≤ 23) ∧ zUs m0 m1)))) := by
  refine wX_of (N := zM239) rfl (Nat.le_of_ble_eq_true rfl) ?_
  show wW (zK sc) zM239 0 [(0, .inr (.inr (.inl (some (34, 0)))))] [] n m0 _
  have hF : zfr (fun k i j => (k = 58) ∨ (k = 59) ∨ (k = 60) ∨ (k = 61) ∨ (k = 34 ∧ j = 30) ∨ (k = 54)) m0 m0 := zfr_rf
  have b1 : 0 ≤ m0.1 34 0 30 ∧ m0.1 34 0 30 ≤ 24 := hG.1 34 _ rfl _ _
  refine ww_go 3 (pc' := 6) (L' := [(0, .inr (.inr (.inl (some (34, 0)))))]) (st' := [.inl 24, .inl (m0.1 34 0 30)]) (m' := m0) (o := some ((0 < 1))) rfl (show (0 < 1) from by omega) ?_
  refine ww_ic (t := 11) rfl rfl (by omega) (fun (h2 : 24 ≤ m0.1 34 0 30) => ?_) (fun (h2 : ¬ (24 ≤ m0.1 34 0 30)) => ?_)
  · show wW (zK sc) zM239 11 [(0, .inr (.inr (.inl (some (34, 0)))))] [] _ _ _
    refine ww_go 4 (pc' := 15) (L' := [(2, .inl 0), (1, .inl ((-1))), (0, .inr (.inr (.inl (some (34, 0)))))]) (st' := []) (m' := m0) (o := none) rfl trivial ?_
    refine ww_sub (L := [(0, .inr (.inr (.inl (some (34, 0))))), (1, .inl ((-1))), (2, .inl 0)]) ⟨rfl, rfl, rfl, trivial⟩ rfl rfl ?_
    exact (zs239_l15 hc hG hR _) ((-1)) 0 m0 rfl (zB_mono hG (by omega)) hF hR (by omega) (by rfl) (by intro z; omega)
  · show wW (zK sc) zM239 9 [(0, .inr (.inr (.inl (some (34, 0)))))] [] _ _ _
    refine ww_go 1 (pc' := 10) (L' := [(0, .inr (.inr (.inl (some (34, 0)))))]) (st' := [.inl 1]) (m' := m0) (o := none) rfl trivial ?_
    exact ww_rB rfl rfl (by omega) ⟨_, rfl, rfl, zB_mono hG (by omega), hF, ⟨hR, ⟨by omega, by omega, zUs_rf⟩⟩⟩
set_option maxRecDepth 8000 in
/-- Mo.restartReceiver -/
theorem zs237 {sc : xSc} {n : Nat × Nat} {m0 : wm} {c : Int} (hc : 0 ≤ c ∧ c ≤ 1000000)  (hG : zB c m0) (hR : zRI m0) : wX (zK sc) 237 [.inr (.inr (.inl (some (34, 0))))] n m0 (wr (fun vv n1 m1 => vv = none ∧ n = n1 ∧ zB c m1 ∧ zfr (fun k i j => (k = 34 ∧ j = 0) ∨ (k = 34 ∧ j = 30) ∨ (k = 54)) m0 m1 ∧ (zRI m1 ∧ (m1.1 34 0 0 = 0)))) := by
  refine wX_of (N := zM237) rfl (Nat.le_of_ble_eq_true rfl) ?_
  show wW (zK sc) zM237 0 [(0, .inr (.inr (.inl (some (34, 0)))))] [] n m0 _
  have hF : zfr (fun k i j => (k = 34 ∧ j = 0) ∨ (k = 34 ∧ j = 30) ∨ (k = 54)) m0 m0 := zfr_rf
  refine ww_go 3 (pc' := 5) (L' := [(0, .inr (.inr (.inl (some (34, 0)))))]) (st' := []) (m' := wuI m0 34 0 0 0) (o := some ((0 < 1))) rfl (show (0 < 1) from by omega) ?_
  obtain ⟨m1, hm1⟩ : ∃ zq9 : wm, zq9 = wuI m0 34 0 0 0 := ⟨_, rfl⟩
  rw [← hm1]
  have hGm1 : zB c m1 := by rw [hm1]; exact zB_wI rfl (show 0 ≤ (0 : Int) ∧ (0 : Int) ≤ 2 from by omega) hG
  have hFm1 : zfr (fun k i j => (k = 34 ∧ j = 0) ∨ (k = 34 ∧ j = 30) ∨ (k = 54)) m0 m1 := by rw [hm1]; exact zfr_wI hF (show (34 = 34 ∧ 0 = 0) ∨ (34 = 34 ∧ 0 = 30) ∨ (34 = 54) from Or.inl (⟨rfl, rfl⟩))
  have s2 : m1.1 34 0 0 = (0 : Int) := by rw [hm1]; exact wuI_self
  have hRm1 : zRI m1 := by rw [hm1]; exact zRI_wo (by decide) hR
  refine ww_go 3 (pc' := 10) (L' := [(0, .inr (.inr (.inl (some (34, 0)))))]) (st' := []) (m' := wuI m1 34 0 30 0) (o := some ((0 < 1))) rfl (show (0 < 1) from by omega) ?_
  obtain ⟨m3, hm3⟩ : ∃ zq9 : wm, zq9 = wuI m1 34 0 30 0 := ⟨_, rfl⟩
  rw [← hm3]
  have hGm3 : zB c m3 := by rw [hm3]; exact zB_wI rfl (show 0 ≤ (0 : Int) ∧ (0 : Int) ≤ 24 from by omega) hGm1
  have hFm3 : zfr (fun k i j => (k = 34 ∧ j = 0) ∨ (k = 34 ∧ j = 30) ∨ (k = 54)) m0 m3 := by rw [hm3]; exact zfr_wI hFm1 (show (34 = 34 ∧ 30 = 0) ∨ (34 = 34 ∧ 30 = 30) ∨ (34 = 54) from Or.inr (Or.inl (⟨rfl, rfl⟩)))
  have s4 : m3.1 34 0 30 = (0 : Int) := by rw [hm3]; exact wuI_self
  have w5 : m3.1 34 0 0 = m1.1 34 0 0 := by rw [hm3]; exact wuI_nj (by omega)
  have hRm3 : zRI m3 := by rw [hm3]; exact zRI_wo (by decide) hRm1
  refine ww_go 1 (pc' := 11) (L' := [(0, .inr (.inr (.inl (some (34, 0)))))]) (st' := [.inr (.inr (.inl (some (34, 0))))]) (m' := m3) (o := none) rfl trivial ?_
  refine ww_call (vs := [.inr (.inr (.inl (some (34, 0))))]) (r := []) (p := 0 < 1) rfl rfl rfl rfl (show 0 < 1 from by omega) (zs254 (c := c) (by omega) hGm3) ?_
  rintro _ _ m8 ⟨rfl, rfl, hGm8, hEm8, hr7⟩
  have hFm8 : zfr (fun k i j => (k = 34 ∧ j = 0) ∨ (k = 34 ∧ j = 30) ∨ (k = 54)) m0 m8 := zfr_tr hFm3 hEm8 (fun k i j z => Or.inr (Or.inr (z)))
  have w9 : m8.1 34 0 0 = m3.1 34 0 0 := (hEm8 34 0 0 (show ¬ ((34 = 54)) from by omega)).1
  have hRm8 : zRI m8 := zRI_us hRm3 hr7 (by funext j; exact (hEm8 51 0 j (show ¬ ((51 = 54)) from by omega)).1) (by funext j; exact (hEm8 52 0 j (show ¬ ((52 = 54)) from by omega)).1) (by funext j; exact (hEm8 53 0 j (show ¬ ((53 = 54)) from by omega)).1) (by funext j; exact (hEm8 55 0 j (show ¬ ((55 = 54)) from by omega)).1) (by funext j; exact (hEm8 56 0 j (show ¬ ((56 = 54)) from by omega)).1) (by funext j; exact (hEm8 57 0 j (show ¬ ((57 = 54)) from by omega)).1)
  show wW (zK sc) zM237 14 [(0, .inr (.inr (.inl (some (34, 0)))))] [] _ _ _
  exact ww_rV rfl rfl ⟨rfl, rfl, zB_mono hGm8 (by omega), hFm8, ⟨hRm8, by omega⟩⟩
set_option maxRecDepth 8000 in
/-- Mo.forget -/
theorem zs199 {sc : xSc} {n : Nat × Nat} {m0 : wm} {c : Int} (hc : 0 ≤ c ∧ c ≤ 1000000) (q : Int) (hG : zB c m0) (h0 : 0 ≤ q ∧ q ≤ 55) : wX (zK sc) 199 [.inr (.inr (.inl (some (34, 0)))), .inl q] n m0 (wr (fun vv n1 m1 => vv = none ∧ n = n1 ∧ zB c m1 ∧ zfr (fun k i j => (k = 58) ∨ (k = 59) ∨ (k = 60) ∨ (k = 61) ∨ (k = 34 ∧ j = 30) ∨ (k = 54) ∨ (k = 55) ∨ (k = 57)) m0 m1 ∧ (zFg m0 m1 q))) := by
  refine wX_of (N := zM199) rfl (Nat.le_of_ble_eq_true rfl) ?_
  show wW (zK sc) zM199 0 [(0, .inr (.inr (.inl (some (34, 0))))), (1, .inl q)] [] n m0 _
  have hF : zfr (fun k i j => (k = 58) ∨ (k = 59) ∨ (k = 60) ∨ (k = 61) ∨ (k = 34 ∧ j = 30) ∨ (k = 54) ∨ (k = 55) ∨ (k = 57)) m0 m0 := zfr_rf
  refine ww_go 4 (pc' := 4) (L' := [(0, .inr (.inr (.inl (some (34, 0))))), (1, .inl q)]) (st' := [.inl ((-1)), .inl q, .inl q, .inr (.inr (.inl (some (34, 0))))]) (m' := m0) (o := none) rfl trivial ?_
  refine ww_call (vs := [.inr (.inr (.inl (some (34, 0)))), .inl q, .inl q, .inl ((-1))]) (r := []) (p := 0 < 1) rfl rfl rfl rfl (show 0 < 1 from by omega) (zs192 (c := c) (by omega) q q ((-1)) hG (by omega)) ?_
  rintro _ _ m3 ⟨rfl, rfl, hGm3, hEm3, hr2⟩
  have hFm3 : zfr (fun k i j => (k = 58) ∨ (k = 59) ∨ (k = 60) ∨ (k = 61) ∨ (k = 34 ∧ j = 30) ∨ (k = 54) ∨ (k = 55) ∨ (k = 57)) m0 m3 := zfr_tr hF hEm3 (fun k i j z => Or.elim z (fun z => Or.inl z) (fun z => Or.elim z (fun z => Or.inr (Or.inl z)) (fun z => Or.elim z (fun z => Or.inr (Or.inr (Or.inl z))) (fun z => Or.elim z (fun z => Or.inr (Or.inr (Or.inr (Or.inl z)))) (fun z => Or.inr (Or.inr (Or.inr (Or.inr (Or.inl z)))))))))
  show wW (zK sc) zM199 7 [(0, .inr (.inr (.inl (some (34, 0))))), (1, .inl q)] [] _ _ _
  refine ww_go 7 (pc' := 16) (L' := [(0, .inr (.inr (.inl (some (34, 0))))), (1, .inl q)]) (st' := []) (m' := wuI m3 55 0 ((2 * q).toNat) 0) (o := some ((0 < 1) ∧ (0 < 1 ∧ 0 ≤ 2 * q ∧ 2 * q < ((112 : Nat) : Int) ∧ 0 ≤ (0 : Int) ∧ (0 : Int) ≤ 1))) rfl (show (0 < 1) ∧ (0 < 1 ∧ 0 ≤ 2 * q ∧ 2 * q < ((112 : Nat) : Int) ∧ 0 ≤ (0 : Int) ∧ (0 : Int) ≤ 1) from by omega) ?_
  obtain ⟨m4, hm4⟩ : ∃ zq9 : wm, zq9 = wuI m3 55 0 ((2 * q).toNat) 0 := ⟨_, rfl⟩
  rw [← hm4]
  have hGm4 : zB c m4 := by rw [hm4]; exact zB_wI rfl (show 0 ≤ (0 : Int) ∧ (0 : Int) ≤ 1 from by omega) hGm3
  have hFm4 : zfr (fun k i j => (k = 58) ∨ (k = 59) ∨ (k = 60) ∨ (k = 61) ∨ (k = 34 ∧ j = 30) ∨ (k = 54) ∨ (k = 55) ∨ (k = 57)) m0 m4 := by rw [hm4]; exact zfr_wI hFm3 (show (55 = 58) ∨ (55 = 59) ∨ (55 = 60) ∨ (55 = 61) ∨ (55 = 34 ∧ ((2 * q).toNat) = 30) ∨ (55 = 54) ∨ (55 = 55) ∨ (55 = 57) from Or.inr (Or.inr (Or.inr (Or.inr (Or.inr (Or.inr (Or.inl rfl)))))))
  have s5 : m4.1 55 0 ((2 * q).toNat) = (0 : Int) := by rw [hm4]; exact wuI_self
  refine ww_go 9 (pc' := 27) (L' := [(0, .inr (.inr (.inl (some (34, 0))))), (1, .inl q)]) (st' := []) (m' := wuI m4 55 0 (((2 * q) + 1).toNat) 0) (o := some ((0 < 1) ∧ (0 < 1 ∧ 0 ≤ (2 * q) + 1 ∧ (2 * q) + 1 < ((112 : Nat) : Int) ∧ 0 ≤ (0 : Int) ∧ (0 : Int) ≤ 1))) rfl (show (0 < 1) ∧ (0 < 1 ∧ 0 ≤ (2 * q) + 1 ∧ (2 * q) + 1 < ((112 : Nat) : Int) ∧ 0 ≤ (0 : Int) ∧ (0 : Int) ≤ 1) from by omega) ?_
  obtain ⟨m6, hm6⟩ : ∃ zq9 : wm, zq9 = wuI m4 55 0 (((2 * q) + 1).toNat) 0 := ⟨_, rfl⟩
  rw [← hm6]
  have hGm6 : zB c m6 := by rw [hm6]; exact zB_wI rfl (show 0 ≤ (0 : Int) ∧ (0 : Int) ≤ 1 from by omega) hGm4
  have hFm6 : zfr (fun k i j => (k = 58) ∨ (k = 59) ∨ (k = 60) ∨ (k = 61) ∨ (k = 34 ∧ j = 30) ∨ (k = 54) ∨ (k = 55) ∨ (k = 57)) m0 m6 := by rw [hm6]; exact zfr_wI hFm4 (show (55 = 58) ∨ (55 = 59) ∨ (55 = 60) ∨ (55 = 61) ∨ (55 = 34 ∧ (((2 * q) + 1).toNat) = 30) ∨ (55 = 54) ∨ (55 = 55) ∨ (55 = 57) from Or.inr (Or.inr (Or.inr (Or.inr (Or.inr (Or.inr (Or.inl rfl)))))))
  have s7 : m6.1 55 0 (((2 * q) + 1).toNat) = (0 : Int) := by rw [hm6]; exact wuI_self
  refine ww_go 5 (pc' := 34) (L' := [(0, .inr (.inr (.inl (some (34, 0))))), (1, .inl q)]) (st' := []) (m' := wuI m6 57 0 q.toNat 0) (o := some ((0 < 1) ∧ (0 < 1 ∧ 0 ≤ q ∧ q < ((56 : Nat) : Int) ∧ 0 ≤ (0 : Int) ∧ (0 : Int) ≤ 1))) rfl (show (0 < 1) ∧ (0 < 1 ∧ 0 ≤ q ∧ q < ((56 : Nat) : Int) ∧ 0 ≤ (0 : Int) ∧ (0 : Int) ≤ 1) from by omega) ?_
  obtain ⟨m8, hm8⟩ : ∃ zq9 : wm, zq9 = wuI m6 57 0 q.toNat 0 := ⟨_, rfl⟩
  rw [← hm8]
  have hGm8 : zB c m8 := by rw [hm8]; exact zB_wI rfl (show 0 ≤ (0 : Int) ∧ (0 : Int) ≤ 1 from by omega) hGm6
  have hFm8 : zfr (fun k i j => (k = 58) ∨ (k = 59) ∨ (k = 60) ∨ (k = 61) ∨ (k = 34 ∧ j = 30) ∨ (k = 54) ∨ (k = 55) ∨ (k = 57)) m0 m8 := by rw [hm8]; exact zfr_wI hFm6 (show (57 = 58) ∨ (57 = 59) ∨ (57 = 60) ∨ (57 = 61) ∨ (57 = 34 ∧ q.toNat = 30) ∨ (57 = 54) ∨ (57 = 55) ∨ (57 = 57) from Or.inr (Or.inr (Or.inr (Or.inr (Or.inr (Or.inr (Or.inr (rfl))))))))
  have s9 : m8.1 57 0 q.toNat = (0 : Int) := by rw [hm8]; exact wuI_self
  refine ww_go 5 (pc' := 41) (L' := [(0, .inr (.inr (.inl (some (34, 0))))), (1, .inl q)]) (st' := []) (m' := wuI m8 54 0 q.toNat ((-1))) (o := some ((0 < 1) ∧ (0 < 1 ∧ 0 ≤ q ∧ q < ((56 : Nat) : Int)))) rfl (show (0 < 1) ∧ (0 < 1 ∧ 0 ≤ q ∧ q < ((56 : Nat) : Int)) from by omega) ?_
  obtain ⟨m10, hm10⟩ : ∃ zq9 : wm, zq9 = wuI m8 54 0 q.toNat ((-1)) := ⟨_, rfl⟩
  rw [← hm10]
  have hGm10 : zB c m10 := by rw [hm10]; exact zB_wI rfl (show (-1) ≤ ((-1) : Int) ∧ ((-1) : Int) ≤ 104 from by omega) hGm8
  have hFm10 : zfr (fun k i j => (k = 58) ∨ (k = 59) ∨ (k = 60) ∨ (k = 61) ∨ (k = 34 ∧ j = 30) ∨ (k = 54) ∨ (k = 55) ∨ (k = 57)) m0 m10 := by rw [hm10]; exact zfr_wI hFm8 (show (54 = 58) ∨ (54 = 59) ∨ (54 = 60) ∨ (54 = 61) ∨ (54 = 34 ∧ q.toNat = 30) ∨ (54 = 54) ∨ (54 = 55) ∨ (54 = 57) from Or.inr (Or.inr (Or.inr (Or.inr (Or.inr (Or.inl rfl))))))
  have s11 : m10.1 54 0 q.toNat = ((-1) : Int) := by rw [hm10]; exact wuI_self
  exact ww_rV rfl rfl ⟨rfl, rfl, zB_mono hGm10 (by omega), hFm10, ⟨fun j hj => by rw [hm10]; show m8.1 57 0 j.toNat = _; rw [hm8, wuI_at (by omega) hj]; show (if j = q then (0 : Int) else m6.1 57 0 j.toNat) = _; rw [hm6]; show (if j = q then (0 : Int) else m4.1 57 0 j.toNat) = _; rw [hm4]; show (if j = q then (0 : Int) else m3.1 57 0 j.toNat) = _; rw [(hEm3 57 0 j.toNat (show ¬ ((57 = 58) ∨ (57 = 59) ∨ (57 = 60) ∨ (57 = 61) ∨ (57 = 34 ∧ j.toNat = 30)) from by omega)).1], fun j hj => by rw [hm10, wuI_at (by omega) hj]; show (if j = q then (-1 : Int) else m8.1 54 0 j.toNat) = _; rw [hm8]; show (if j = q then (-1 : Int) else m6.1 54 0 j.toNat) = _; rw [hm6]; show (if j = q then (-1 : Int) else m4.1 54 0 j.toNat) = _; rw [hm4]; show (if j = q then (-1 : Int) else m3.1 54 0 j.toNat) = _; rw [(hEm3 54 0 j.toNat (show ¬ ((54 = 58) ∨ (54 = 59) ∨ (54 = 60) ∨ (54 = 61) ∨ (54 = 34 ∧ j.toNat = 30)) from by omega)).1], fun j hj => by rw [hm10]; show m8.1 55 0 j.toNat = _; rw [hm8]; show m6.1 55 0 j.toNat = _; rw [hm6, wuI_at (by omega) hj, hm4, wuI_at (by omega) hj, (hEm3 55 0 j.toNat (show ¬ ((55 = 58) ∨ (55 = 59) ∨ (55 = 60) ∨ (55 = 61) ∨ (55 = 34 ∧ j.toNat = 30)) from by omega)).1]; exact zif2⟩⟩
set_option maxRecDepth 8000 in
theorem zs249_l5 {sc : xSc} {n : Nat × Nat} {m : wm} {c : Int} (hc : 0 ≤ c ∧ c ≤ 1000000) (f : Int) (k : Int) (x : Int) (hG : zB c m) (h0 : 0 ≤ f ∧ f ≤ 7 ∧ 0 ≤ k ∧ k ≤ x ∧ x ≤ 6) (hM : zMF x (zby m f)) : ∀ (d : Nat), ∀ (a : Int) (i : Int), (6 - i).toNat = d → (0 ≤ i ∧ i ≤ k) → (a = zat (zby m f) i.toNat) →  wW (zK sc) zM249 5 [(0, .inr (.inr (.inl (some (34, 0))))), (1, .inl f), (2, .inl k), (3, .inl a), (4, .inl i)] [] n m (wr (fun vv n1 m1 => ∃ r : Int, vv = some (.inl r) ∧ n = n1 ∧ m = m1 ∧ (r = zat (zby m f) k.toNat ∧ 3 ≤ r ∧ r ≤ 104))) := by
  intro d
  induction d using Nat.strongRecOn with
  | ind d ih =>
    intro a i hd hi ha
    have z9 := zMF_at hM i.toNat (by omega)
    refine ww_go 2 (pc' := 8) (L' := [(0, .inr (.inr (.inl (some (34, 0))))), (1, .inl f), (2, .inl k), (3, .inl a), (4, .inl i)]) (st' := [.inl k, .inl i]) (m' := m) (o := none) rfl trivial ?_
    refine ww_ic (t := 32) rfl rfl (by omega) (fun (h1 : k ≤ i) => ?_) (fun (h1 : ¬ (k ≤ i)) => ?_)
    · show wW (zK sc) zM249 32 [(0, .inr (.inr (.inl (some (34, 0))))), (1, .inl f), (2, .inl k), (3, .inl a), (4, .inl i)] [] _ _ _
      refine ww_go 1 (pc' := 33) (L' := [(0, .inr (.inr (.inl (some (34, 0))))), (1, .inl f), (2, .inl k), (3, .inl a), (4, .inl i)]) (st' := [.inl a]) (m' := m) (o := none) rfl trivial ?_
      exact ww_rI rfl rfl ⟨_, rfl, rfl, rfl, by (have z9 := zMF_at hM k.toNat (by omega); have z8 : i = k := (by omega); rw [z8] at ha; exact ⟨ha, by omega, by omega⟩)⟩
    · show wW (zK sc) zM249 11 [(0, .inr (.inr (.inl (some (34, 0))))), (1, .inl f), (2, .inl k), (3, .inl a), (4, .inl i)] [] _ _ _
      refine ww_go 7 (pc' := 20) (L' := [(0, .inr (.inr (.inl (some (34, 0))))), (1, .inl f), (2, .inl k), (3, .inl a), (4, .inl i)]) (st' := [.inl a, .inl (7 * f), .inr (.inr (.inl (some (34, 0)))), .inl 10, .inl a]) (m' := m) (o := none) rfl trivial ?_
      refine ww_call (vs := [.inr (.inr (.inl (some (34, 0)))), .inl (7 * f), .inl a]) (r := [.inl 10, .inl a]) (p := 0 < 1) rfl rfl rfl rfl (show 0 < 1 from by omega) (zs185 (c := c) (by omega) (7 * f) a hG (by omega)) ?_
      rintro _ _ _ ⟨r2, rfl, rfl, rfl, hr3⟩
      show wW (zK sc) zM249 23 [(0, .inr (.inr (.inl (some (34, 0))))), (1, .inl f), (2, .inl k), (3, .inl a), (4, .inl i)] [.inl r2, .inl 10, .inl a] _ _ _
      refine ww_go 5 (pc' := 5) (L' := [(4, .inl (i + 1)), (3, .inl (a + (10 + r2))), (0, .inr (.inr (.inl (some (34, 0))))), (1, .inl f), (2, .inl k)]) (st' := []) (m' := m) (o := none) rfl trivial ?_
      refine ww_sub (L := [(0, .inr (.inr (.inl (some (34, 0))))), (1, .inl f), (2, .inl k), (3, .inl (a + (10 + r2))), (4, .inl (i + 1))]) ⟨rfl, rfl, rfl, rfl, rfl, trivial⟩ rfl rfl ?_
      exact (ih _ (by omega)) (a + (10 + r2)) (i + 1) rfl (by omega) (by exact ztells_s ha (by omega) hr3)
set_option maxRecDepth 8000 in
/-- Mo.tells -/
theorem zs249 {sc : xSc} {n : Nat × Nat} {m : wm} {c : Int} (hc : 0 ≤ c ∧ c ≤ 1000000) (f : Int) (k : Int) (x : Int) (hG : zB c m) (h0 : 0 ≤ f ∧ f ≤ 7 ∧ 0 ≤ k ∧ k ≤ x ∧ x ≤ 6) (hM : zMF x (zby m f)) : wX (zK sc) 249 [.inr (.inr (.inl (some (34, 0)))), .inl f, .inl k] n m (wr (fun vv n1 m1 => ∃ r : Int, vv = some (.inl r) ∧ n = n1 ∧ m = m1 ∧ (r = zat (zby m f) k.toNat ∧ 3 ≤ r ∧ r ≤ 104))) := by
  refine wX_of (N := zM249) rfl (Nat.le_of_ble_eq_true rfl) ?_
  show wW (zK sc) zM249 0 [(0, .inr (.inr (.inl (some (34, 0))))), (1, .inl f), (2, .inl k)] [] n m _
  refine ww_go 4 (pc' := 5) (L' := [(4, .inl 0), (3, .inl 3), (0, .inr (.inr (.inl (some (34, 0))))), (1, .inl f), (2, .inl k)]) (st' := []) (m' := m) (o := none) rfl trivial ?_
  refine ww_sub (L := [(0, .inr (.inr (.inl (some (34, 0))))), (1, .inl f), (2, .inl k), (3, .inl 3), (4, .inl 0)]) ⟨rfl, rfl, rfl, rfl, rfl, trivial⟩ rfl rfl ?_
  exact (zs249_l5 hc f k x hG h0 hM _) 3 0 rfl (by omega) (by rfl)
