set_option maxRecDepth 8000 in
/-- Mo.drops -/
theorem yt193 {sc : xSc} {n : Nat × Nat} {m0 : wm} {c : Int} (hc : 0 ≤ c ∧ c ≤ 1000000) (x : Int) (hG : zB c m0) (h0 : 0 ≤ x ∧ x ≤ 6) : wX (zK sc) 193 [.inr (.inr (.inl (some (34, 0)))), .inl x] n m0 (wr (fun vv n1 m1 => ∃ r : Int, vv = some (.inl r) ∧ n = n1 ∧ zB (c + 1) m1 ∧ zfr (fun k i j => (k = 34 ∧ j = 35)) m0 m1 ∧ (r = x ∧ zDp m0 m1))) := by
  refine wX_of (N := zM193) rfl (Nat.le_of_ble_eq_true rfl) ?_
  show wW (zK sc) zM193 0 [(0, .inr (.inr (.inl (some (34, 0))))), (1, .inl x)] [] n m0 _
  have hF : zfr (fun k i j => (k = 34 ∧ j = 35)) m0 m0 := zfr_rf
  have b1 : 0 ≤ m0.1 34 0 35 ∧ m0.1 34 0 35 ≤ c := hG.1 34 _ rfl _ _
  refine ww_go 6 (pc' := 10) (L' := [(0, .inr (.inr (.inl (some (34, 0))))), (1, .inl x)]) (st' := []) (m' := wuI m0 34 0 35 ((m0.1 34 0 35) + 1)) (o := some ((0 < 1) ∧ (0 < 1))) rfl (show (0 < 1) ∧ (0 < 1) from by omega) ?_
  obtain ⟨m2, hm2⟩ : ∃ zq9 : wm, zq9 = wuI m0 34 0 35 ((m0.1 34 0 35) + 1) := ⟨_, rfl⟩
  rw [← hm2]
  have hXm2 := zB_mono (c' := (c + 1)) hG (by omega)
  have hGm2 : zB (c + 1) m2 := by rw [hm2]; exact zB_wI rfl (show 0 ≤ (m0.1 34 0 35) + 1 ∧ (m0.1 34 0 35) + 1 ≤ (c + 1) from by omega) hXm2
  have hFm2 : zfr (fun k i j => (k = 34 ∧ j = 35)) m0 m2 := by rw [hm2]; exact zfr_wI hF (show (34 = 34 ∧ 35 = 35) from ⟨rfl, rfl⟩)
  have s3 : m2.1 34 0 35 = (m0.1 34 0 35) + 1 := by rw [hm2]; exact wuI_self
  refine ww_go 1 (pc' := 11) (L' := [(0, .inr (.inr (.inl (some (34, 0))))), (1, .inl x)]) (st' := [.inl x]) (m' := m2) (o := none) rfl trivial ?_
  exact ww_rI rfl rfl ⟨_, rfl, rfl, zB_mono hGm2 (by omega), hFm2, ⟨rfl, zfr_tr zfr_rf hFm2 (fun k i j z => z), by omega⟩⟩
set_option maxRecDepth 8000 in
theorem yt239_l15 {sc : xSc} {n : Nat × Nat} {m0 : wm} {c : Int} (hc : 0 ≤ c ∧ c ≤ 1000000)  (hG : zB c m0) (hR : zRI m0) : ∀ (d : Nat), ∀ (w : Int) (k : Int), (8 - k).toNat = d → (-1 ≤ w ∧ w ≤ 7 ∧ 0 ≤ k ∧ k ≤ 8 ∧ m0.1 34 0 30 = 24) → (zRql m0 w k) →  wW (zK sc) zM239 15 [(0, .inr (.inr (.inl (some (34, 0))))), (1, .inl w), (2, .inl k)] [] n m0 (wr (fun vv n1 m1 => ∃ r : Int, vv = some (.inl r) ∧ n = n1 ∧ zB c m1 ∧ zfr (fun k i j => (k = 58) ∨ (k = 59) ∨ (k = 60) ∨ (k = 61) ∨ (k = 34 ∧ j = 30) ∨ (k = 54)) m0 m1 ∧ (zRI m1 ∧ (((r = 0 ∨ r = 1) ∧ (r = 1 → m1.1 34 0 30 ≤ 23) ∧ zUs m0 m1) ∧ zRm m0 m1 r)))) := by
  intro d
  induction d using Nat.strongRecOn with
  | ind d ih =>
    intro w k hd hi hw
    have q0 : 0 ≤ m0.1 34 0 30 ∧ m0.1 34 0 30 ≤ 24 := hG.1 34 _ rfl _ _
    have hF : zfr (fun k i j => (k = 58) ∨ (k = 59) ∨ (k = 60) ∨ (k = 61) ∨ (k = 34 ∧ j = 30) ∨ (k = 54)) m0 m0 := zfr_rf
    refine ww_go 2 (pc' := 18) (L' := [(0, .inr (.inr (.inl (some (34, 0))))), (1, .inl w), (2, .inl k)]) (st' := [.inl 8, .inl k]) (m' := m0) (o := none) rfl trivial ?_
    refine ww_ic (t := 63) rfl rfl (by omega) (fun (h1 : 8 ≤ k) => ?_) (fun (h1 : ¬ (8 ≤ k)) => ?_)
    · show wW (zK sc) zM239 63 [(0, .inr (.inr (.inl (some (34, 0))))), (1, .inl w), (2, .inl k)] [] _ _ _
      refine ww_go 1 (pc' := 64) (L' := [(0, .inr (.inr (.inl (some (34, 0))))), (1, .inl w), (2, .inl k)]) (st' := [.inl w]) (m' := m0) (o := none) rfl trivial ?_
      refine ww_if (t := 69) rfl rfl (by omega) (fun (h2 : 0 ≤ w) => ?_) (fun (h2 : ¬ (0 ≤ w)) => ?_)
      · show wW (zK sc) zM239 69 [(0, .inr (.inr (.inl (some (34, 0))))), (1, .inl w), (2, .inl k)] [] _ _ _
        refine ww_go 10 (pc' := 82) (L' := [(0, .inr (.inr (.inl (some (34, 0))))), (1, .inl w), (2, .inl k)]) (st' := [.inl ((-1)), .inl ((7 * w) + 6), .inl (7 * w), .inr (.inr (.inl (some (34, 0))))]) (m' := m0) (o := none) rfl trivial ?_
        refine ww_call (vs := [.inr (.inr (.inl (some (34, 0)))), .inl (7 * w), .inl ((7 * w) + 6), .inl ((-1))]) (r := []) (p := 0 < 1) rfl rfl rfl rfl (show 0 < 1 from by omega) (yt192 (c := c) (by omega) (7 * w) ((7 * w) + 6) ((-1)) hG (by omega)) ?_
        rintro _ _ m5 ⟨rfl, rfl, hGm5, hEm5, hr4⟩
        have hFm5 : zfr (fun k i j => (k = 58) ∨ (k = 59) ∨ (k = 60) ∨ (k = 61) ∨ (k = 34 ∧ j = 30) ∨ (k = 54)) m0 m5 := zfr_tr hF hEm5 (fun k i j z => Or.elim z (fun z => Or.inl z) (fun z => Or.elim z (fun z => Or.inr (Or.inl z)) (fun z => Or.elim z (fun z => Or.inr (Or.inr (Or.inl z))) (fun z => Or.elim z (fun z => Or.inr (Or.inr (Or.inr (Or.inl z)))) (fun z => Or.inr (Or.inr (Or.inr (Or.inr (Or.inl z)))))))))
        have hRm5 : zRI m5 := zRI_fr hR hEm5 (fun k j hk => (show ¬ ((k = 58) ∨ (k = 59) ∨ (k = 60) ∨ (k = 61) ∨ (k = 34 ∧ j = 30)) from by omega))
        show wW (zK sc) zM239 85 [(0, .inr (.inr (.inl (some (34, 0))))), (1, .inl w), (2, .inl k)] [] _ _ _
        refine ww_go 1 (pc' := 86) (L' := [(0, .inr (.inr (.inl (some (34, 0))))), (1, .inl w), (2, .inl k)]) (st' := [.inr (.inr (.inl (some (34, 0))))]) (m' := m5) (o := none) rfl trivial ?_
        refine ww_call (vs := [.inr (.inr (.inl (some (34, 0))))]) (r := []) (p := 0 < 1) rfl rfl rfl rfl (show 0 < 1 from by omega) (yt254 (c := c) (by omega) hGm5) ?_
        rintro _ _ m8 ⟨rfl, rfl, hGm8, hEm8, hr7⟩
        have hFm8 : zfr (fun k i j => (k = 58) ∨ (k = 59) ∨ (k = 60) ∨ (k = 61) ∨ (k = 34 ∧ j = 30) ∨ (k = 54)) m0 m8 := zfr_tr hFm5 hEm8 (fun k i j z => Or.inr (Or.inr (Or.inr (Or.inr (Or.inr (z))))))
        have w9 : m8.1 34 0 30 = m5.1 34 0 30 := (hEm8 34 0 30 (show ¬ ((34 = 54)) from by omega)).1
        have hRm8 : zRI m8 := zRI_us hRm5 hr7.1 (by funext j; exact (hEm8 51 0 j (show ¬ ((51 = 54)) from by omega)).1) (by funext j; exact (hEm8 52 0 j (show ¬ ((52 = 54)) from by omega)).1) (by funext j; exact (hEm8 53 0 j (show ¬ ((53 = 54)) from by omega)).1) (by funext j; exact (hEm8 55 0 j (show ¬ ((55 = 54)) from by omega)).1) (by funext j; exact (hEm8 56 0 j (show ¬ ((56 = 54)) from by omega)).1) (by funext j; exact (hEm8 57 0 j (show ¬ ((57 = 54)) from by omega)).1)
        show wW (zK sc) zM239 89 [(0, .inr (.inr (.inl (some (34, 0))))), (1, .inl w), (2, .inl k)] [] _ _ _
        refine ww_go 1 (pc' := 90) (L' := [(0, .inr (.inr (.inl (some (34, 0))))), (1, .inl w), (2, .inl k)]) (st' := [.inl 1]) (m' := m8) (o := none) rfl trivial ?_
        have zw9 := hw.elim (fun z => absurd z.1 (by omega)) (fun z => z)
        exact ww_rB rfl rfl (by omega) ⟨_, rfl, rfl, zB_mono hGm8 (by omega), hFm8, ⟨hRm8, ⟨⟨Or.inr rfl, fun _ => by have z9 := (hr4).2.1 (by decide) (zw9.2.2.1.2); omega, zUs_fr hr7.1 (show m5.1 54 0 = m0.1 54 0 from by funext j; exact (hEm5 54 0 j (show ¬ ((54 = 58) ∨ (54 = 59) ∨ (54 = 60) ∨ (54 = 61) ∨ (54 = 34 ∧ j = 30)) from by omega)).1) (show m5.1 55 0 = m0.1 55 0 from by funext j; exact (hEm5 55 0 j (show ¬ ((55 = 58) ∨ (55 = 59) ∨ (55 = 60) ∨ (55 = 61) ∨ (55 = 34 ∧ j = 30)) from by omega)).1)⟩, Or.inr (Or.inr ⟨rfl, by omega, w, ⟨by omega, by omega, (by rw [show (8 : Int) = k from by omega]; exact hw)⟩, m5, zfr_tr zfr_rf hEm5 (fun k i j z => z), zRdr_L hr4.2.2, zfr_tr zfr_rf hEm8 (fun k i j z => z), hr7.2⟩)⟩⟩⟩
      · show wW (zK sc) zM239 67 [(0, .inr (.inr (.inl (some (34, 0))))), (1, .inl w), (2, .inl k)] [] _ _ _
        refine ww_go 1 (pc' := 68) (L' := [(0, .inr (.inr (.inl (some (34, 0))))), (1, .inl w), (2, .inl k)]) (st' := [.inl 0]) (m' := m0) (o := none) rfl trivial ?_
        exact ww_rB rfl rfl (by omega) ⟨_, rfl, rfl, zB_mono hG (by omega), hF, ⟨hR, ⟨⟨by omega, by omega, zUs_rf⟩, Or.inr (Or.inl ⟨rfl, by omega, rfl, hw.elim (fun z p h1 h2 => z.2 p h1 (by omega)) (fun z => absurd z.1 (by omega))⟩)⟩⟩⟩
    · show wW (zK sc) zM239 21 [(0, .inr (.inr (.inl (some (34, 0))))), (1, .inl w), (2, .inl k)] [] _ _ _
      have t10 : (0 ≤ k → k.tmod 4 = k % 4) ∧ (k < 0 → k.tmod 4 = -((-k) % 4)) := ⟨fun z => Int.tmod_eq_emod_of_nonneg z, fun z => wtmod_neg z⟩
      refine ww_go 4 (pc' := 25) (L' := [(0, .inr (.inr (.inl (some (34, 0))))), (1, .inl w), (2, .inl k)]) (st' := [.inl 3, .inl (k.tmod 4)]) (m' := m0) (o := some ((-2147483648 ≤ k ∧ k ≤ 2147483647 ∧ 0 < (4 : Int) ∧ (4 : Int) ≤ 2147483647))) rfl (show (-2147483648 ≤ k ∧ k ≤ 2147483647 ∧ 0 < (4 : Int) ∧ (4 : Int) ≤ 2147483647) from by omega) ?_
      refine ww_ic (t := 57) rfl rfl (by omega) (fun (h11 : 3 ≤ k.tmod 4) => ?_) (fun (h11 : ¬ (3 ≤ k.tmod 4)) => ?_)
      · show wW (zK sc) zM239 57 [(0, .inr (.inr (.inl (some (34, 0))))), (1, .inl w), (2, .inl k)] [] _ _ _
        refine ww_go 2 (pc' := 15) (L' := [(2, .inl (k + 1)), (0, .inr (.inr (.inl (some (34, 0))))), (1, .inl w)]) (st' := []) (m' := m0) (o := none) rfl trivial ?_
        refine ww_sub (L := [(0, .inr (.inr (.inl (some (34, 0))))), (1, .inl w), (2, .inl (k + 1))]) ⟨rfl, rfl, rfl, trivial⟩ rfl rfl ?_
        exact (ih _ (by omega)) w (k + 1) rfl (by omega) (by exact zRql_n hw (fun z => absurd z.1 (by omega)))
      · show wW (zK sc) zM239 28 [(0, .inr (.inr (.inl (some (34, 0))))), (1, .inl w), (2, .inl k)] [] _ _ _
        refine ww_go 2 (pc' := 30) (L' := [(0, .inr (.inr (.inl (some (34, 0))))), (1, .inl w), (2, .inl k)]) (st' := [.inl k, .inr (.inr (.inl (some (34, 0))))]) (m' := m0) (o := none) rfl trivial ?_
        refine ww_call (vs := [.inr (.inr (.inl (some (34, 0)))), .inl k]) (r := []) (p := 0 < 1) rfl rfl rfl rfl (show 0 < 1 from by omega) (yt201 (c := c) (by omega) k hG (by omega)) ?_
        rintro _ _ _ ⟨r12, rfl, rfl, rfl, hr13⟩
        show wW (zK sc) zM239 33 [(0, .inr (.inr (.inl (some (34, 0))))), (1, .inl w), (2, .inl k)] [.inl r12] _ _ _
        refine ww_if (t := 57) rfl rfl (by omega) (fun (h14 : r12 = 0) => ?_) (fun (h14 : ¬ (r12 = 0)) => ?_)
        · show wW (zK sc) zM239 57 [(0, .inr (.inr (.inl (some (34, 0))))), (1, .inl w), (2, .inl k)] [] _ _ _
          refine ww_go 2 (pc' := 15) (L' := [(2, .inl (k + 1)), (0, .inr (.inr (.inl (some (34, 0))))), (1, .inl w)]) (st' := []) (m' := m0) (o := none) rfl trivial ?_
          refine ww_sub (L := [(0, .inr (.inr (.inl (some (34, 0))))), (1, .inl w), (2, .inl (k + 1))]) ⟨rfl, rfl, rfl, trivial⟩ rfl rfl ?_
          exact (ih _ (by omega)) w (k + 1) rfl (by omega) (by first | exact zRql_n hw (fun z => hr13.elim (fun y => absurd y.1 (by omega)) (fun y => zHit_no y.2 z.2)) | exact zRql_k hw (by omega) (by omega))
        · show wW (zK sc) zM239 36 [(0, .inr (.inr (.inl (some (34, 0))))), (1, .inl w), (2, .inl k)] [] _ _ _
          refine ww_go 1 (pc' := 37) (L' := [(0, .inr (.inr (.inl (some (34, 0))))), (1, .inl w), (2, .inl k)]) (st' := [.inl w]) (m' := m0) (o := none) rfl trivial ?_
          refine ww_if (t := 55) rfl rfl (by omega) (fun (h15 : w < 0) => ?_) (fun (h15 : ¬ (w < 0)) => ?_)
          · show wW (zK sc) zM239 55 [(0, .inr (.inr (.inl (some (34, 0))))), (1, .inl w), (2, .inl k)] [] _ _ _
            refine ww_go 4 (pc' := 15) (L' := [(2, .inl (k + 1)), (1, .inl k), (0, .inr (.inr (.inl (some (34, 0)))))]) (st' := []) (m' := m0) (o := none) rfl trivial ?_
            refine ww_sub (L := [(0, .inr (.inr (.inl (some (34, 0))))), (1, .inl k), (2, .inl (k + 1))]) ⟨rfl, rfl, rfl, trivial⟩ rfl rfl ?_
            exact (ih _ (by omega)) k (k + 1) rfl (by omega) (by exact zRql_s hw (by omega) ⟨by omega, hr13.elim (fun y => y.2) (fun y => absurd y.1 (by omega))⟩ (by omega))
          · show wW (zK sc) zM239 40 [(0, .inr (.inr (.inl (some (34, 0))))), (1, .inl w), (2, .inl k)] [] _ _ _
            have b16 : 0 ≤ m0.1 50 0 k.toNat ∧ m0.1 50 0 k.toNat ≤ 65535 := hG.1 50 _ rfl _ _
            have b17 : 0 ≤ m0.1 50 0 w.toNat ∧ m0.1 50 0 w.toNat ≤ 65535 := hG.1 50 _ rfl _ _
            refine ww_go 8 (pc' := 52) (L' := [(0, .inr (.inr (.inl (some (34, 0))))), (1, .inl w), (2, .inl k)]) (st' := [.inl (m0.1 50 0 w.toNat), .inl (m0.1 50 0 k.toNat)]) (m' := m0) (o := some ((0 < 1) ∧ (0 < 1 ∧ 0 ≤ k ∧ k < ((8 : Nat) : Int)) ∧ (0 < 1) ∧ (0 < 1 ∧ 0 ≤ w ∧ w < ((8 : Nat) : Int)))) rfl (show (0 < 1) ∧ (0 < 1 ∧ 0 ≤ k ∧ k < ((8 : Nat) : Int)) ∧ (0 < 1) ∧ (0 < 1 ∧ 0 ≤ w ∧ w < ((8 : Nat) : Int)) from by omega) ?_
            refine ww_ic (t := 57) rfl rfl (by omega) (fun (h18 : m0.1 50 0 w.toNat ≤ m0.1 50 0 k.toNat) => ?_) (fun (h18 : ¬ (m0.1 50 0 w.toNat ≤ m0.1 50 0 k.toNat)) => ?_)
            · show wW (zK sc) zM239 57 [(0, .inr (.inr (.inl (some (34, 0))))), (1, .inl w), (2, .inl k)] [] _ _ _
              refine ww_go 2 (pc' := 15) (L' := [(2, .inl (k + 1)), (0, .inr (.inr (.inl (some (34, 0))))), (1, .inl w)]) (st' := []) (m' := m0) (o := none) rfl trivial ?_
              refine ww_sub (L := [(0, .inr (.inr (.inl (some (34, 0))))), (1, .inl w), (2, .inl (k + 1))]) ⟨rfl, rfl, rfl, trivial⟩ rfl rfl ?_
              exact (ih _ (by omega)) w (k + 1) rfl (by omega) (by first | exact zRql_n hw (fun z => hr13.elim (fun y => absurd y.1 (by omega)) (fun y => zHit_no y.2 z.2)) | exact zRql_k hw (by omega) (by omega))
            · show wW (zK sc) zM239 55 [(0, .inr (.inr (.inl (some (34, 0))))), (1, .inl w), (2, .inl k)] [] _ _ _
              refine ww_go 4 (pc' := 15) (L' := [(2, .inl (k + 1)), (1, .inl k), (0, .inr (.inr (.inl (some (34, 0)))))]) (st' := []) (m' := m0) (o := none) rfl trivial ?_
              refine ww_sub (L := [(0, .inr (.inr (.inl (some (34, 0))))), (1, .inl k), (2, .inl (k + 1))]) ⟨rfl, rfl, rfl, trivial⟩ rfl rfl ?_
              exact (ih _ (by omega)) k (k + 1) rfl (by omega) (by exact zRql_s hw (by omega) ⟨by omega, hr13.elim (fun y => y.2) (fun y => absurd y.1 (by omega))⟩ (by omega))
set_option maxRecDepth 8000 in
/-- Mo.room -/
theorem yt239 {sc : xSc} {n : Nat × Nat} {m0 : wm} {c : Int} (hc : 0 ≤ c ∧ c ≤ 1000000)  (hG : zB c m0) (hR : zRI m0) : wX (zK sc) 239 [.inr (.inr (.inl (some (34, 0))))] n m0 (wr (fun vv n1 m1 => ∃ r : Int, vv = some (.inl r) ∧ n = n1 ∧ zB c m1 ∧ zfr (fun k i j => (k = 58) ∨ (k = 59) ∨ (k = 60) ∨ (k = 61) ∨ (k = 34 ∧ j = 30) ∨ (k = 54)) m0 m1 ∧ (zRI m1 ∧ (((r = 0 ∨ r = 1) ∧ (r = 1 → m1.1 34 0 30 ≤ 23) ∧ zUs m0 m1) ∧ zRm m0 m1 r)))) := by
  refine wX_of (N := zM239) rfl (Nat.le_of_ble_eq_true rfl) ?_
  show wW (zK sc) zM239 0 [(0, .inr (.inr (.inl (some (34, 0)))))] [] n m0 _
  have hF : zfr (fun k i j => (k = 58) ∨ (k = 59) ∨ (k = 60) ∨ (k = 61) ∨ (k = 34 ∧ j = 30) ∨ (k = 54)) m0 m0 := zfr_rf
  have q0 : 0 ≤ m0.1 34 0 30 ∧ m0.1 34 0 30 ≤ 24 := hG.1 34 _ rfl _ _
  have b1 : 0 ≤ m0.1 34 0 30 ∧ m0.1 34 0 30 ≤ 24 := hG.1 34 _ rfl _ _
  refine ww_go 3 (pc' := 6) (L' := [(0, .inr (.inr (.inl (some (34, 0)))))]) (st' := [.inl 24, .inl (m0.1 34 0 30)]) (m' := m0) (o := some ((0 < 1))) rfl (show (0 < 1) from by omega) ?_
  refine ww_ic (t := 11) rfl rfl (by omega) (fun (h2 : 24 ≤ m0.1 34 0 30) => ?_) (fun (h2 : ¬ (24 ≤ m0.1 34 0 30)) => ?_)
  · show wW (zK sc) zM239 11 [(0, .inr (.inr (.inl (some (34, 0)))))] [] _ _ _
    refine ww_go 4 (pc' := 15) (L' := [(2, .inl 0), (1, .inl ((-1))), (0, .inr (.inr (.inl (some (34, 0)))))]) (st' := []) (m' := m0) (o := none) rfl trivial ?_
    refine ww_sub (L := [(0, .inr (.inr (.inl (some (34, 0))))), (1, .inl ((-1))), (2, .inl 0)]) ⟨rfl, rfl, rfl, trivial⟩ rfl rfl ?_
    exact (yt239_l15 hc hG hR _) ((-1)) 0 rfl (by omega) (by exact zRql_0)
  · show wW (zK sc) zM239 9 [(0, .inr (.inr (.inl (some (34, 0)))))] [] _ _ _
    refine ww_go 1 (pc' := 10) (L' := [(0, .inr (.inr (.inl (some (34, 0)))))]) (st' := [.inl 1]) (m' := m0) (o := none) rfl trivial ?_
    exact ww_rB rfl rfl (by omega) ⟨_, rfl, rfl, zB_mono hG (by omega), hF, ⟨hR, ⟨⟨by omega, by omega, zUs_rf⟩, Or.inl ⟨rfl, by omega, rfl⟩⟩⟩⟩
set_option maxRecDepth 8000 in
/-- Mo.restartReceiver -/
theorem yt237 {sc : xSc} {n : Nat × Nat} {m0 : wm} {c : Int} (hc : 0 ≤ c ∧ c ≤ 1000000)  (hG : zB c m0) (hR : zRI m0) : wX (zK sc) 237 [.inr (.inr (.inl (some (34, 0))))] n m0 (wr (fun vv n1 m1 => vv = none ∧ n = n1 ∧ zB c m1 ∧ zfr (fun k i j => (k = 34 ∧ j = 0) ∨ (k = 34 ∧ j = 30) ∨ (k = 54)) m0 m1 ∧ (zRI m1 ∧ (m1.1 34 0 0 = 0 ∧ zRs0 m0 m1)))) := by
  refine wX_of (N := zM237) rfl (Nat.le_of_ble_eq_true rfl) ?_
  show wW (zK sc) zM237 0 [(0, .inr (.inr (.inl (some (34, 0)))))] [] n m0 _
  have hF : zfr (fun k i j => (k = 34 ∧ j = 0) ∨ (k = 34 ∧ j = 30) ∨ (k = 54)) m0 m0 := zfr_rf
  refine ww_go 3 (pc' := 5) (L' := [(0, .inr (.inr (.inl (some (34, 0)))))]) (st' := []) (m' := wuI m0 34 0 0 0) (o := some ((0 < 1))) rfl (show (0 < 1) from by omega) ?_
  obtain ⟨m1, hm1⟩ : ∃ zq9 : wm, zq9 = wuI m0 34 0 0 0 := ⟨_, rfl⟩
  rw [← hm1]
  have hGm1 : zB c m1 := by rw [hm1]; exact zB_wI rfl (show 0 ≤ (0 : Int) ∧ (0 : Int) ≤ 2 from by omega) hG
  have hFm1 : zfr (fun k i j => (k = 34 ∧ j = 0) ∨ (k = 34 ∧ j = 30) ∨ (k = 54)) m0 m1 := by rw [hm1]; exact zfr_wI hF (show (34 = 34 ∧ 0 = 0) ∨ (34 = 34 ∧ 0 = 30) ∨ (34 = 54) from Or.inl (⟨rfl, rfl⟩))
  have s2 : m1.1 34 0 0 = (0 : Int) := by rw [hm1]; exact wuI_self
  have hRm1 : zRI m1 := by rw [hm1]; exact zRI_wo (by decide) hR
  refine ww_go 3 (pc' := 10) (L' := [(0, .inr (.inr (.inl (some (34, 0)))))]) (st' := []) (m' := wuI m1 34 0 30 0) (o := some ((0 < 1))) rfl (show (0 < 1) from by omega) ?_
  obtain ⟨m3, hm3⟩ : ∃ zq9 : wm, zq9 = wuI m1 34 0 30 0 := ⟨_, rfl⟩
  rw [← hm3]
  have hGm3 : zB c m3 := by rw [hm3]; exact zB_wI rfl (show 0 ≤ (0 : Int) ∧ (0 : Int) ≤ 24 from by omega) hGm1
  have hFm3 : zfr (fun k i j => (k = 34 ∧ j = 0) ∨ (k = 34 ∧ j = 30) ∨ (k = 54)) m0 m3 := by rw [hm3]; exact zfr_wI hFm1 (show (34 = 34 ∧ 30 = 0) ∨ (34 = 34 ∧ 30 = 30) ∨ (34 = 54) from Or.inr (Or.inl (⟨rfl, rfl⟩)))
  have s4 : m3.1 34 0 30 = (0 : Int) := by rw [hm3]; exact wuI_self
  have w5 : m3.1 34 0 0 = m1.1 34 0 0 := by rw [hm3]; exact wuI_nj (by omega)
  have hRm3 : zRI m3 := by rw [hm3]; exact zRI_wo (by decide) hRm1
  refine ww_go 1 (pc' := 11) (L' := [(0, .inr (.inr (.inl (some (34, 0)))))]) (st' := [.inr (.inr (.inl (some (34, 0))))]) (m' := m3) (o := none) rfl trivial ?_
  refine ww_call (vs := [.inr (.inr (.inl (some (34, 0))))]) (r := []) (p := 0 < 1) rfl rfl rfl rfl (show 0 < 1 from by omega) (yt254 (c := c) (by omega) hGm3) ?_
  rintro _ _ m8 ⟨rfl, rfl, hGm8, hEm8, hr7⟩
  have hFm8 : zfr (fun k i j => (k = 34 ∧ j = 0) ∨ (k = 34 ∧ j = 30) ∨ (k = 54)) m0 m8 := zfr_tr hFm3 hEm8 (fun k i j z => Or.inr (Or.inr (z)))
  have w9 : m8.1 34 0 0 = m3.1 34 0 0 := (hEm8 34 0 0 (show ¬ ((34 = 54)) from by omega)).1
  have hRm8 : zRI m8 := zRI_us hRm3 hr7.1 (by funext j; exact (hEm8 51 0 j (show ¬ ((51 = 54)) from by omega)).1) (by funext j; exact (hEm8 52 0 j (show ¬ ((52 = 54)) from by omega)).1) (by funext j; exact (hEm8 53 0 j (show ¬ ((53 = 54)) from by omega)).1) (by funext j; exact (hEm8 55 0 j (show ¬ ((55 = 54)) from by omega)).1) (by funext j; exact (hEm8 56 0 j (show ¬ ((56 = 54)) from by omega)).1) (by funext j; exact (hEm8 57 0 j (show ¬ ((57 = 54)) from by omega)).1)
  show wW (zK sc) zM237 14 [(0, .inr (.inr (.inl (some (34, 0)))))] [] _ _ _
  exact ww_rV rfl rfl ⟨rfl, rfl, zB_mono hGm8 (by omega), hFm8, ⟨hRm8, ⟨by omega, m3, (by rw [hm3, hm1]; exact zfr_wI (zfr_wI zfr_rf (Or.inl ⟨rfl, rfl⟩)) (Or.inr ⟨rfl, rfl⟩)), by omega, zfr_tr zfr_rf hEm8 (fun k i j z => z), hr7.2⟩⟩⟩
set_option maxRecDepth 8000 in
/-- Mo.canBe -/
theorem yt186 {sc : xSc} {n : Nat × Nat} {m : wm} {c : Int} (hc : 0 ≤ c ∧ c ≤ 1000000) (q : Int) (hG : zB c m) (h0 : 0 ≤ q ∧ q ≤ 31) : wX (zK sc) 186 [.inr (.inr (.inl (some (34, 0)))), .inl q] n m (wr (fun vv n1 m1 => ∃ r : Int, vv = some (.inl r) ∧ n = n1 ∧ m = m1 ∧ ((r = 1 ∧ zCbR m q) ∨ (r = 0 ∧ ¬ zCbR m q)))) := by
  refine wX_of (N := zM186) rfl (Nat.le_of_ble_eq_true rfl) ?_
  show wW (zK sc) zM186 0 [(0, .inr (.inr (.inl (some (34, 0))))), (1, .inl q)] [] n m _
  have zq1 : zsl m q 1 = m.1 47 0 (24 * q + 1).toNat := rfl
  have zq2 : zsl m q 2 = m.1 47 0 (24 * q + 2).toNat := rfl
  have zq3 : zsl m q 3 = m.1 47 0 (24 * q + 3).toNat := rfl
  have zq4 : zsl m q 4 = m.1 47 0 (24 * q + 4).toNat := rfl
  have zq5 : zsl m q 5 = m.1 47 0 (24 * q + 5).toNat := rfl
  have zq6 : zsl m q 6 = m.1 47 0 (24 * q + 6).toNat := rfl
  have zq7 : zsl m q 7 = m.1 47 0 (24 * q + 7).toNat := rfl
  have b1 : 0 ≤ m.1 47 0 (((24 * q) + 1).toNat) ∧ m.1 47 0 (((24 * q) + 1).toNat) ≤ 255 := hG.1 47 _ rfl _ _
  have b2 : 0 ≤ m.1 47 0 (((24 * q) + 2).toNat) ∧ m.1 47 0 (((24 * q) + 2).toNat) ≤ 255 := hG.1 47 _ rfl _ _
  have b3 : 0 ≤ m.1 47 0 (((24 * q) + 3).toNat) ∧ m.1 47 0 (((24 * q) + 3).toNat) ≤ 255 := hG.1 47 _ rfl _ _
  have b4 : 0 ≤ m.1 47 0 (((24 * q) + 7).toNat) ∧ m.1 47 0 (((24 * q) + 7).toNat) ≤ 255 := hG.1 47 _ rfl _ _
  refine ww_go 36 (pc' := 50) (L' := [(5, .inl (m.1 47 0 (((24 * q) + 7).toNat))), (4, .inl ((256 * (m.1 47 0 (((24 * q) + 2).toNat))) + (m.1 47 0 (((24 * q) + 3).toNat)))), (3, .inl (m.1 47 0 (((24 * q) + 1).toNat))), (2, .inl (24 * q)), (0, .inr (.inr (.inl (some (34, 0))))), (1, .inl q)]) (st' := [.inl 1, .inl (m.1 47 0 (((24 * q) + 1).toNat))]) (m' := m) (o := some ((0 < 1) ∧ (0 < 1 ∧ 0 ≤ (24 * q) + 1 ∧ (24 * q) + 1 < ((768 : Nat) : Int)) ∧ (0 < 1) ∧ (0 < 1 ∧ 0 ≤ (24 * q) + 2 ∧ (24 * q) + 2 < ((768 : Nat) : Int)) ∧ (0 < 1) ∧ (0 < 1 ∧ 0 ≤ (24 * q) + 3 ∧ (24 * q) + 3 < ((768 : Nat) : Int)) ∧ (0 < 1) ∧ (0 < 1 ∧ 0 ≤ (24 * q) + 7 ∧ (24 * q) + 7 < ((768 : Nat) : Int)))) rfl (show (0 < 1) ∧ (0 < 1 ∧ 0 ≤ (24 * q) + 1 ∧ (24 * q) + 1 < ((768 : Nat) : Int)) ∧ (0 < 1) ∧ (0 < 1 ∧ 0 ≤ (24 * q) + 2 ∧ (24 * q) + 2 < ((768 : Nat) : Int)) ∧ (0 < 1) ∧ (0 < 1 ∧ 0 ≤ (24 * q) + 3 ∧ (24 * q) + 3 < ((768 : Nat) : Int)) ∧ (0 < 1) ∧ (0 < 1 ∧ 0 ≤ (24 * q) + 7 ∧ (24 * q) + 7 < ((768 : Nat) : Int)) from by omega) ?_
  refine ww_ic (t := 94) rfl rfl (by omega) (fun (h5 : 1 < m.1 47 0 (((24 * q) + 1).toNat)) => ?_) (fun (h5 : ¬ (1 < m.1 47 0 (((24 * q) + 1).toNat))) => ?_)
  · show wW (zK sc) zM186 94 [(5, .inl (m.1 47 0 (((24 * q) + 7).toNat))), (4, .inl ((256 * (m.1 47 0 (((24 * q) + 2).toNat))) + (m.1 47 0 (((24 * q) + 3).toNat)))), (3, .inl (m.1 47 0 (((24 * q) + 1).toNat))), (2, .inl (24 * q)), (0, .inr (.inr (.inl (some (34, 0))))), (1, .inl q)] [] _ _ _
    refine ww_go 1 (pc' := 95) (L' := [(5, .inl (m.1 47 0 (((24 * q) + 7).toNat))), (4, .inl ((256 * (m.1 47 0 (((24 * q) + 2).toNat))) + (m.1 47 0 (((24 * q) + 3).toNat)))), (3, .inl (m.1 47 0 (((24 * q) + 1).toNat))), (2, .inl (24 * q)), (0, .inr (.inr (.inl (some (34, 0))))), (1, .inl q)]) (st' := [.inl 0]) (m' := m) (o := none) rfl trivial ?_
    exact ww_rB rfl rfl (by omega) ⟨_, rfl, rfl, rfl, by (exact Or.inr ⟨rfl, fun zz => (by obtain ⟨a1, a2, a3, a4, a5, a6, a7⟩ := zz; have b6 : m.1 47 0 (24 * q + 6).toNat < zpb (m.1 47 0 (24 * q + 7).toNat) (m.1 47 0 (24 * q + 5).toNat) := a6; have b7 : m.1 50 0 (4 * m.1 47 0 (24 * q + 1).toNat).toNat = 0 ∨ m.1 50 0 (4 * m.1 47 0 (24 * q + 1).toNat).toNat ≤ 256 * m.1 47 0 (24 * q + 2).toNat + m.1 47 0 (24 * q + 3).toNat := a7; omega)⟩)⟩
  · show wW (zK sc) zM186 53 [(5, .inl (m.1 47 0 (((24 * q) + 7).toNat))), (4, .inl ((256 * (m.1 47 0 (((24 * q) + 2).toNat))) + (m.1 47 0 (((24 * q) + 3).toNat)))), (3, .inl (m.1 47 0 (((24 * q) + 1).toNat))), (2, .inl (24 * q)), (0, .inr (.inr (.inl (some (34, 0))))), (1, .inl q)] [] _ _ _
    refine ww_go 1 (pc' := 55) (L' := [(5, .inl (m.1 47 0 (((24 * q) + 7).toNat))), (4, .inl ((256 * (m.1 47 0 (((24 * q) + 2).toNat))) + (m.1 47 0 (((24 * q) + 3).toNat)))), (3, .inl (m.1 47 0 (((24 * q) + 1).toNat))), (2, .inl (24 * q)), (0, .inr (.inr (.inl (some (34, 0))))), (1, .inl q)]) (st' := [.inl ((256 * (m.1 47 0 (((24 * q) + 2).toNat))) + (m.1 47 0 (((24 * q) + 3).toNat)))]) (m' := m) (o := none) rfl trivial ?_
    refine ww_if (t := 94) rfl rfl (by omega) (fun (h6 : (256 * (m.1 47 0 (((24 * q) + 2).toNat))) + (m.1 47 0 (((24 * q) + 3).toNat)) = 0) => ?_) (fun (h6 : ¬ ((256 * (m.1 47 0 (((24 * q) + 2).toNat))) + (m.1 47 0 (((24 * q) + 3).toNat)) = 0)) => ?_)
    · show wW (zK sc) zM186 94 [(5, .inl (m.1 47 0 (((24 * q) + 7).toNat))), (4, .inl ((256 * (m.1 47 0 (((24 * q) + 2).toNat))) + (m.1 47 0 (((24 * q) + 3).toNat)))), (3, .inl (m.1 47 0 (((24 * q) + 1).toNat))), (2, .inl (24 * q)), (0, .inr (.inr (.inl (some (34, 0))))), (1, .inl q)] [] _ _ _
      refine ww_go 1 (pc' := 95) (L' := [(5, .inl (m.1 47 0 (((24 * q) + 7).toNat))), (4, .inl ((256 * (m.1 47 0 (((24 * q) + 2).toNat))) + (m.1 47 0 (((24 * q) + 3).toNat)))), (3, .inl (m.1 47 0 (((24 * q) + 1).toNat))), (2, .inl (24 * q)), (0, .inr (.inr (.inl (some (34, 0))))), (1, .inl q)]) (st' := [.inl 0]) (m' := m) (o := none) rfl trivial ?_
      exact ww_rB rfl rfl (by omega) ⟨_, rfl, rfl, rfl, by (exact Or.inr ⟨rfl, fun zz => (by obtain ⟨a1, a2, a3, a4, a5, a6, a7⟩ := zz; have b6 : m.1 47 0 (24 * q + 6).toNat < zpb (m.1 47 0 (24 * q + 7).toNat) (m.1 47 0 (24 * q + 5).toNat) := a6; have b7 : m.1 50 0 (4 * m.1 47 0 (24 * q + 1).toNat).toNat = 0 ∨ m.1 50 0 (4 * m.1 47 0 (24 * q + 1).toNat).toNat ≤ 256 * m.1 47 0 (24 * q + 2).toNat + m.1 47 0 (24 * q + 3).toNat := a7; omega)⟩)⟩
    · show wW (zK sc) zM186 58 [(5, .inl (m.1 47 0 (((24 * q) + 7).toNat))), (4, .inl ((256 * (m.1 47 0 (((24 * q) + 2).toNat))) + (m.1 47 0 (((24 * q) + 3).toNat)))), (3, .inl (m.1 47 0 (((24 * q) + 1).toNat))), (2, .inl (24 * q)), (0, .inr (.inr (.inl (some (34, 0))))), (1, .inl q)] [] _ _ _
      have b7 : 0 ≤ m.1 47 0 (((24 * q) + 4).toNat) ∧ m.1 47 0 (((24 * q) + 4).toNat) ≤ 255 := hG.1 47 _ rfl _ _
      refine ww_go 7 (pc' := 68) (L' := [(5, .inl (m.1 47 0 (((24 * q) + 7).toNat))), (4, .inl ((256 * (m.1 47 0 (((24 * q) + 2).toNat))) + (m.1 47 0 (((24 * q) + 3).toNat)))), (3, .inl (m.1 47 0 (((24 * q) + 1).toNat))), (2, .inl (24 * q)), (0, .inr (.inr (.inl (some (34, 0))))), (1, .inl q)]) (st' := [.inl 6, .inl (m.1 47 0 (((24 * q) + 4).toNat))]) (m' := m) (o := some ((0 < 1) ∧ (0 < 1 ∧ 0 ≤ (24 * q) + 4 ∧ (24 * q) + 4 < ((768 : Nat) : Int)))) rfl (show (0 < 1) ∧ (0 < 1 ∧ 0 ≤ (24 * q) + 4 ∧ (24 * q) + 4 < ((768 : Nat) : Int)) from by omega) ?_
      refine ww_ic (t := 94) rfl rfl (by omega) (fun (h8 : 6 < m.1 47 0 (((24 * q) + 4).toNat)) => ?_) (fun (h8 : ¬ (6 < m.1 47 0 (((24 * q) + 4).toNat))) => ?_)
      · show wW (zK sc) zM186 94 [(5, .inl (m.1 47 0 (((24 * q) + 7).toNat))), (4, .inl ((256 * (m.1 47 0 (((24 * q) + 2).toNat))) + (m.1 47 0 (((24 * q) + 3).toNat)))), (3, .inl (m.1 47 0 (((24 * q) + 1).toNat))), (2, .inl (24 * q)), (0, .inr (.inr (.inl (some (34, 0))))), (1, .inl q)] [] _ _ _
        refine ww_go 1 (pc' := 95) (L' := [(5, .inl (m.1 47 0 (((24 * q) + 7).toNat))), (4, .inl ((256 * (m.1 47 0 (((24 * q) + 2).toNat))) + (m.1 47 0 (((24 * q) + 3).toNat)))), (3, .inl (m.1 47 0 (((24 * q) + 1).toNat))), (2, .inl (24 * q)), (0, .inr (.inr (.inl (some (34, 0))))), (1, .inl q)]) (st' := [.inl 0]) (m' := m) (o := none) rfl trivial ?_
        exact ww_rB rfl rfl (by omega) ⟨_, rfl, rfl, rfl, by (exact Or.inr ⟨rfl, fun zz => (by obtain ⟨a1, a2, a3, a4, a5, a6, a7⟩ := zz; have b6 : m.1 47 0 (24 * q + 6).toNat < zpb (m.1 47 0 (24 * q + 7).toNat) (m.1 47 0 (24 * q + 5).toNat) := a6; have b7 : m.1 50 0 (4 * m.1 47 0 (24 * q + 1).toNat).toNat = 0 ∨ m.1 50 0 (4 * m.1 47 0 (24 * q + 1).toNat).toNat ≤ 256 * m.1 47 0 (24 * q + 2).toNat + m.1 47 0 (24 * q + 3).toNat := a7; omega)⟩)⟩
      · show wW (zK sc) zM186 71 [(5, .inl (m.1 47 0 (((24 * q) + 7).toNat))), (4, .inl ((256 * (m.1 47 0 (((24 * q) + 2).toNat))) + (m.1 47 0 (((24 * q) + 3).toNat)))), (3, .inl (m.1 47 0 (((24 * q) + 1).toNat))), (2, .inl (24 * q)), (0, .inr (.inr (.inl (some (34, 0))))), (1, .inl q)] [] _ _ _
        refine ww_go 2 (pc' := 75) (L' := [(5, .inl (m.1 47 0 (((24 * q) + 7).toNat))), (4, .inl ((256 * (m.1 47 0 (((24 * q) + 2).toNat))) + (m.1 47 0 (((24 * q) + 3).toNat)))), (3, .inl (m.1 47 0 (((24 * q) + 1).toNat))), (2, .inl (24 * q)), (0, .inr (.inr (.inl (some (34, 0))))), (1, .inl q)]) (st' := [.inl 104, .inl (m.1 47 0 (((24 * q) + 7).toNat))]) (m' := m) (o := none) rfl trivial ?_
        refine ww_ic (t := 94) rfl rfl (by omega) (fun (h9 : 104 < m.1 47 0 (((24 * q) + 7).toNat)) => ?_) (fun (h9 : ¬ (104 < m.1 47 0 (((24 * q) + 7).toNat))) => ?_)
        · show wW (zK sc) zM186 94 [(5, .inl (m.1 47 0 (((24 * q) + 7).toNat))), (4, .inl ((256 * (m.1 47 0 (((24 * q) + 2).toNat))) + (m.1 47 0 (((24 * q) + 3).toNat)))), (3, .inl (m.1 47 0 (((24 * q) + 1).toNat))), (2, .inl (24 * q)), (0, .inr (.inr (.inl (some (34, 0))))), (1, .inl q)] [] _ _ _
          refine ww_go 1 (pc' := 95) (L' := [(5, .inl (m.1 47 0 (((24 * q) + 7).toNat))), (4, .inl ((256 * (m.1 47 0 (((24 * q) + 2).toNat))) + (m.1 47 0 (((24 * q) + 3).toNat)))), (3, .inl (m.1 47 0 (((24 * q) + 1).toNat))), (2, .inl (24 * q)), (0, .inr (.inr (.inl (some (34, 0))))), (1, .inl q)]) (st' := [.inl 0]) (m' := m) (o := none) rfl trivial ?_
          exact ww_rB rfl rfl (by omega) ⟨_, rfl, rfl, rfl, by (exact Or.inr ⟨rfl, fun zz => (by obtain ⟨a1, a2, a3, a4, a5, a6, a7⟩ := zz; have b6 : m.1 47 0 (24 * q + 6).toNat < zpb (m.1 47 0 (24 * q + 7).toNat) (m.1 47 0 (24 * q + 5).toNat) := a6; have b7 : m.1 50 0 (4 * m.1 47 0 (24 * q + 1).toNat).toNat = 0 ∨ m.1 50 0 (4 * m.1 47 0 (24 * q + 1).toNat).toNat ≤ 256 * m.1 47 0 (24 * q + 2).toNat + m.1 47 0 (24 * q + 3).toNat := a7; omega)⟩)⟩
        · show wW (zK sc) zM186 78 [(5, .inl (m.1 47 0 (((24 * q) + 7).toNat))), (4, .inl ((256 * (m.1 47 0 (((24 * q) + 2).toNat))) + (m.1 47 0 (((24 * q) + 3).toNat)))), (3, .inl (m.1 47 0 (((24 * q) + 1).toNat))), (2, .inl (24 * q)), (0, .inr (.inr (.inl (some (34, 0))))), (1, .inl q)] [] _ _ _
          have b10 : 0 ≤ m.1 47 0 (((24 * q) + 5).toNat) ∧ m.1 47 0 (((24 * q) + 5).toNat) ≤ 255 := hG.1 47 _ rfl _ _
          refine ww_go 7 (pc' := 88) (L' := [(5, .inl (m.1 47 0 (((24 * q) + 7).toNat))), (4, .inl ((256 * (m.1 47 0 (((24 * q) + 2).toNat))) + (m.1 47 0 (((24 * q) + 3).toNat)))), (3, .inl (m.1 47 0 (((24 * q) + 1).toNat))), (2, .inl (24 * q)), (0, .inr (.inr (.inl (some (34, 0))))), (1, .inl q)]) (st' := [.inl (m.1 47 0 (((24 * q) + 7).toNat)), .inl (m.1 47 0 (((24 * q) + 5).toNat))]) (m' := m) (o := some ((0 < 1) ∧ (0 < 1 ∧ 0 ≤ (24 * q) + 5 ∧ (24 * q) + 5 < ((768 : Nat) : Int)))) rfl (show (0 < 1) ∧ (0 < 1 ∧ 0 ≤ (24 * q) + 5 ∧ (24 * q) + 5 < ((768 : Nat) : Int)) from by omega) ?_
          refine ww_call (vs := [.inl (m.1 47 0 (((24 * q) + 7).toNat))]) (r := [.inl (m.1 47 0 (((24 * q) + 5).toNat))]) (p := True) rfl rfl rfl rfl trivial (zs182 (m.1 47 0 (((24 * q) + 7).toNat)) (by omega)) ?_
          rintro _ _ _ ⟨r11, rfl, rfl, rfl, hr12⟩
          show wW (zK sc) zM186 91 [(5, .inl (m.1 47 0 (((24 * q) + 7).toNat))), (4, .inl ((256 * (m.1 47 0 (((24 * q) + 2).toNat))) + (m.1 47 0 (((24 * q) + 3).toNat)))), (3, .inl (m.1 47 0 (((24 * q) + 1).toNat))), (2, .inl (24 * q)), (0, .inr (.inr (.inl (some (34, 0))))), (1, .inl q)] [.inl r11, .inl (m.1 47 0 (((24 * q) + 5).toNat))] _ _ _
          refine ww_ic (t := 96) rfl rfl (by omega) (fun (h13 : m.1 47 0 (((24 * q) + 5).toNat) < r11) => ?_) (fun (h13 : ¬ (m.1 47 0 (((24 * q) + 5).toNat) < r11)) => ?_)
          · show wW (zK sc) zM186 96 [(5, .inl (m.1 47 0 (((24 * q) + 7).toNat))), (4, .inl ((256 * (m.1 47 0 (((24 * q) + 2).toNat))) + (m.1 47 0 (((24 * q) + 3).toNat)))), (3, .inl (m.1 47 0 (((24 * q) + 1).toNat))), (2, .inl (24 * q)), (0, .inr (.inr (.inl (some (34, 0))))), (1, .inl q)] [] _ _ _
            have b14 : 0 ≤ m.1 47 0 (((24 * q) + 6).toNat) ∧ m.1 47 0 (((24 * q) + 6).toNat) ≤ 255 := hG.1 47 _ rfl _ _
            have b15 : 0 ≤ m.1 47 0 (((24 * q) + 5).toNat) ∧ m.1 47 0 (((24 * q) + 5).toNat) ≤ 255 := hG.1 47 _ rfl _ _
            refine ww_go 14 (pc' := 116) (L' := [(5, .inl (m.1 47 0 (((24 * q) + 7).toNat))), (4, .inl ((256 * (m.1 47 0 (((24 * q) + 2).toNat))) + (m.1 47 0 (((24 * q) + 3).toNat)))), (3, .inl (m.1 47 0 (((24 * q) + 1).toNat))), (2, .inl (24 * q)), (0, .inr (.inr (.inl (some (34, 0))))), (1, .inl q)]) (st' := [.inl (m.1 47 0 (((24 * q) + 5).toNat)), .inl (m.1 47 0 (((24 * q) + 7).toNat)), .inl 2, .inl (m.1 47 0 (((24 * q) + 6).toNat))]) (m' := m) (o := some ((0 < 1) ∧ (0 < 1 ∧ 0 ≤ (24 * q) + 6 ∧ (24 * q) + 6 < ((768 : Nat) : Int)) ∧ (0 < 1) ∧ (0 < 1 ∧ 0 ≤ (24 * q) + 5 ∧ (24 * q) + 5 < ((768 : Nat) : Int)))) rfl (show (0 < 1) ∧ (0 < 1 ∧ 0 ≤ (24 * q) + 6 ∧ (24 * q) + 6 < ((768 : Nat) : Int)) ∧ (0 < 1) ∧ (0 < 1 ∧ 0 ≤ (24 * q) + 5 ∧ (24 * q) + 5 < ((768 : Nat) : Int)) from by omega) ?_
            refine ww_call (vs := [.inl (m.1 47 0 (((24 * q) + 7).toNat)), .inl (m.1 47 0 (((24 * q) + 5).toNat))]) (r := [.inl 2, .inl (m.1 47 0 (((24 * q) + 6).toNat))]) (p := True) rfl rfl rfl rfl trivial (zs229 (m.1 47 0 (((24 * q) + 7).toNat)) (m.1 47 0 (((24 * q) + 5).toNat)) (by omega)) ?_
            rintro _ _ _ ⟨r16, rfl, rfl, rfl, hr17⟩
            show wW (zK sc) zM186 119 [(5, .inl (m.1 47 0 (((24 * q) + 7).toNat))), (4, .inl ((256 * (m.1 47 0 (((24 * q) + 2).toNat))) + (m.1 47 0 (((24 * q) + 3).toNat)))), (3, .inl (m.1 47 0 (((24 * q) + 1).toNat))), (2, .inl (24 * q)), (0, .inr (.inr (.inl (some (34, 0))))), (1, .inl q)] [.inl r16, .inl 2, .inl (m.1 47 0 (((24 * q) + 6).toNat))] _ _ _
            refine ww_go 1 (pc' := 120) (L' := [(5, .inl (m.1 47 0 (((24 * q) + 7).toNat))), (4, .inl ((256 * (m.1 47 0 (((24 * q) + 2).toNat))) + (m.1 47 0 (((24 * q) + 3).toNat)))), (3, .inl (m.1 47 0 (((24 * q) + 1).toNat))), (2, .inl (24 * q)), (0, .inr (.inr (.inl (some (34, 0))))), (1, .inl q)]) (st' := [.inl (2 * r16), .inl (m.1 47 0 (((24 * q) + 6).toNat))]) (m' := m) (o := none) rfl trivial ?_
            refine ww_ic (t := 151) rfl rfl (by omega) (fun (h18 : 2 * r16 ≤ m.1 47 0 (((24 * q) + 6).toNat)) => ?_) (fun (h18 : ¬ (2 * r16 ≤ m.1 47 0 (((24 * q) + 6).toNat))) => ?_)
            · show wW (zK sc) zM186 151 [(5, .inl (m.1 47 0 (((24 * q) + 7).toNat))), (4, .inl ((256 * (m.1 47 0 (((24 * q) + 2).toNat))) + (m.1 47 0 (((24 * q) + 3).toNat)))), (3, .inl (m.1 47 0 (((24 * q) + 1).toNat))), (2, .inl (24 * q)), (0, .inr (.inr (.inl (some (34, 0))))), (1, .inl q)] [] _ _ _
              refine ww_go 1 (pc' := 152) (L' := [(5, .inl (m.1 47 0 (((24 * q) + 7).toNat))), (4, .inl ((256 * (m.1 47 0 (((24 * q) + 2).toNat))) + (m.1 47 0 (((24 * q) + 3).toNat)))), (3, .inl (m.1 47 0 (((24 * q) + 1).toNat))), (2, .inl (24 * q)), (0, .inr (.inr (.inl (some (34, 0))))), (1, .inl q)]) (st' := [.inl 0]) (m' := m) (o := none) rfl trivial ?_
              exact ww_rB rfl rfl (by omega) ⟨_, rfl, rfl, rfl, by (exact Or.inr ⟨rfl, fun zz => (by obtain ⟨a1, a2, a3, a4, a5, a6, a7⟩ := zz; have b6 : m.1 47 0 (24 * q + 6).toNat < zpb (m.1 47 0 (24 * q + 7).toNat) (m.1 47 0 (24 * q + 5).toNat) := a6; have b7 : m.1 50 0 (4 * m.1 47 0 (24 * q + 1).toNat).toNat = 0 ∨ m.1 50 0 (4 * m.1 47 0 (24 * q + 1).toNat).toNat ≤ 256 * m.1 47 0 (24 * q + 2).toNat + m.1 47 0 (24 * q + 3).toNat := a7; have z9 := hr17.2.2.2 (by omega); omega)⟩)⟩
            · show wW (zK sc) zM186 123 [(5, .inl (m.1 47 0 (((24 * q) + 7).toNat))), (4, .inl ((256 * (m.1 47 0 (((24 * q) + 2).toNat))) + (m.1 47 0 (((24 * q) + 3).toNat)))), (3, .inl (m.1 47 0 (((24 * q) + 1).toNat))), (2, .inl (24 * q)), (0, .inr (.inr (.inl (some (34, 0))))), (1, .inl q)] [] _ _ _
              have b19 : 0 ≤ m.1 50 0 ((4 * (m.1 47 0 (((24 * q) + 1).toNat))).toNat) ∧ m.1 50 0 ((4 * (m.1 47 0 (((24 * q) + 1).toNat))).toNat) ≤ 65535 := hG.1 50 _ rfl _ _
              refine ww_go 6 (pc' := 131) (L' := [(5, .inl (m.1 47 0 (((24 * q) + 7).toNat))), (4, .inl ((256 * (m.1 47 0 (((24 * q) + 2).toNat))) + (m.1 47 0 (((24 * q) + 3).toNat)))), (3, .inl (m.1 47 0 (((24 * q) + 1).toNat))), (2, .inl (24 * q)), (0, .inr (.inr (.inl (some (34, 0))))), (1, .inl q)]) (st' := [.inl (m.1 50 0 ((4 * (m.1 47 0 (((24 * q) + 1).toNat))).toNat))]) (m' := m) (o := some ((0 < 1) ∧ (0 < 1 ∧ 0 ≤ 4 * (m.1 47 0 (((24 * q) + 1).toNat)) ∧ 4 * (m.1 47 0 (((24 * q) + 1).toNat)) < ((8 : Nat) : Int)))) rfl (show (0 < 1) ∧ (0 < 1 ∧ 0 ≤ 4 * (m.1 47 0 (((24 * q) + 1).toNat)) ∧ 4 * (m.1 47 0 (((24 * q) + 1).toNat)) < ((8 : Nat) : Int)) from by omega) ?_
              refine ww_if (t := 147) rfl rfl (by omega) (fun (h20 : m.1 50 0 ((4 * (m.1 47 0 (((24 * q) + 1).toNat))).toNat) = 0) => ?_) (fun (h20 : ¬ (m.1 50 0 ((4 * (m.1 47 0 (((24 * q) + 1).toNat))).toNat) = 0)) => ?_)
              · show wW (zK sc) zM186 147 [(5, .inl (m.1 47 0 (((24 * q) + 7).toNat))), (4, .inl ((256 * (m.1 47 0 (((24 * q) + 2).toNat))) + (m.1 47 0 (((24 * q) + 3).toNat)))), (3, .inl (m.1 47 0 (((24 * q) + 1).toNat))), (2, .inl (24 * q)), (0, .inr (.inr (.inl (some (34, 0))))), (1, .inl q)] [] _ _ _
                refine ww_go 2 (pc' := 152) (L' := [(5, .inl (m.1 47 0 (((24 * q) + 7).toNat))), (4, .inl ((256 * (m.1 47 0 (((24 * q) + 2).toNat))) + (m.1 47 0 (((24 * q) + 3).toNat)))), (3, .inl (m.1 47 0 (((24 * q) + 1).toNat))), (2, .inl (24 * q)), (0, .inr (.inr (.inl (some (34, 0))))), (1, .inl q)]) (st' := [.inl 1]) (m' := m) (o := none) rfl trivial ?_
                exact ww_rB rfl rfl (by omega) ⟨_, rfl, rfl, rfl, by (exact Or.inl ⟨rfl, by omega, by omega, by omega, by omega, by omega, (show m.1 47 0 (24 * q + 6).toNat < zpb (m.1 47 0 (24 * q + 7).toNat) (m.1 47 0 (24 * q + 5).toNat) from by have z9 := hr17.2.2.2 (by omega); omega), (show m.1 50 0 (4 * m.1 47 0 (24 * q + 1).toNat).toNat = 0 ∨ m.1 50 0 (4 * m.1 47 0 (24 * q + 1).toNat).toNat ≤ 256 * m.1 47 0 (24 * q + 2).toNat + m.1 47 0 (24 * q + 3).toNat from by omega)⟩)⟩
              · show wW (zK sc) zM186 134 [(5, .inl (m.1 47 0 (((24 * q) + 7).toNat))), (4, .inl ((256 * (m.1 47 0 (((24 * q) + 2).toNat))) + (m.1 47 0 (((24 * q) + 3).toNat)))), (3, .inl (m.1 47 0 (((24 * q) + 1).toNat))), (2, .inl (24 * q)), (0, .inr (.inr (.inl (some (34, 0))))), (1, .inl q)] [] _ _ _
                have b21 : 0 ≤ m.1 50 0 ((4 * (m.1 47 0 (((24 * q) + 1).toNat))).toNat) ∧ m.1 50 0 ((4 * (m.1 47 0 (((24 * q) + 1).toNat))).toNat) ≤ 65535 := hG.1 50 _ rfl _ _
                refine ww_go 7 (pc' := 144) (L' := [(5, .inl (m.1 47 0 (((24 * q) + 7).toNat))), (4, .inl ((256 * (m.1 47 0 (((24 * q) + 2).toNat))) + (m.1 47 0 (((24 * q) + 3).toNat)))), (3, .inl (m.1 47 0 (((24 * q) + 1).toNat))), (2, .inl (24 * q)), (0, .inr (.inr (.inl (some (34, 0))))), (1, .inl q)]) (st' := [.inl (m.1 50 0 ((4 * (m.1 47 0 (((24 * q) + 1).toNat))).toNat)), .inl ((256 * (m.1 47 0 (((24 * q) + 2).toNat))) + (m.1 47 0 (((24 * q) + 3).toNat)))]) (m' := m) (o := some ((0 < 1) ∧ (0 < 1 ∧ 0 ≤ 4 * (m.1 47 0 (((24 * q) + 1).toNat)) ∧ 4 * (m.1 47 0 (((24 * q) + 1).toNat)) < ((8 : Nat) : Int)))) rfl (show (0 < 1) ∧ (0 < 1 ∧ 0 ≤ 4 * (m.1 47 0 (((24 * q) + 1).toNat)) ∧ 4 * (m.1 47 0 (((24 * q) + 1).toNat)) < ((8 : Nat) : Int)) from by omega) ?_
                refine ww_ic (t := 151) rfl rfl (by omega) (fun (h22 : (256 * (m.1 47 0 (((24 * q) + 2).toNat))) + (m.1 47 0 (((24 * q) + 3).toNat)) < m.1 50 0 ((4 * (m.1 47 0 (((24 * q) + 1).toNat))).toNat)) => ?_) (fun (h22 : ¬ ((256 * (m.1 47 0 (((24 * q) + 2).toNat))) + (m.1 47 0 (((24 * q) + 3).toNat)) < m.1 50 0 ((4 * (m.1 47 0 (((24 * q) + 1).toNat))).toNat))) => ?_)
                · show wW (zK sc) zM186 151 [(5, .inl (m.1 47 0 (((24 * q) + 7).toNat))), (4, .inl ((256 * (m.1 47 0 (((24 * q) + 2).toNat))) + (m.1 47 0 (((24 * q) + 3).toNat)))), (3, .inl (m.1 47 0 (((24 * q) + 1).toNat))), (2, .inl (24 * q)), (0, .inr (.inr (.inl (some (34, 0))))), (1, .inl q)] [] _ _ _
                  refine ww_go 1 (pc' := 152) (L' := [(5, .inl (m.1 47 0 (((24 * q) + 7).toNat))), (4, .inl ((256 * (m.1 47 0 (((24 * q) + 2).toNat))) + (m.1 47 0 (((24 * q) + 3).toNat)))), (3, .inl (m.1 47 0 (((24 * q) + 1).toNat))), (2, .inl (24 * q)), (0, .inr (.inr (.inl (some (34, 0))))), (1, .inl q)]) (st' := [.inl 0]) (m' := m) (o := none) rfl trivial ?_
                  exact ww_rB rfl rfl (by omega) ⟨_, rfl, rfl, rfl, by (exact Or.inr ⟨rfl, fun zz => (by obtain ⟨a1, a2, a3, a4, a5, a6, a7⟩ := zz; have b6 : m.1 47 0 (24 * q + 6).toNat < zpb (m.1 47 0 (24 * q + 7).toNat) (m.1 47 0 (24 * q + 5).toNat) := a6; have b7 : m.1 50 0 (4 * m.1 47 0 (24 * q + 1).toNat).toNat = 0 ∨ m.1 50 0 (4 * m.1 47 0 (24 * q + 1).toNat).toNat ≤ 256 * m.1 47 0 (24 * q + 2).toNat + m.1 47 0 (24 * q + 3).toNat := a7; have z9 := hr17.2.2.2 (by omega); omega)⟩)⟩
                · show wW (zK sc) zM186 147 [(5, .inl (m.1 47 0 (((24 * q) + 7).toNat))), (4, .inl ((256 * (m.1 47 0 (((24 * q) + 2).toNat))) + (m.1 47 0 (((24 * q) + 3).toNat)))), (3, .inl (m.1 47 0 (((24 * q) + 1).toNat))), (2, .inl (24 * q)), (0, .inr (.inr (.inl (some (34, 0))))), (1, .inl q)] [] _ _ _
                  refine ww_go 2 (pc' := 152) (L' := [(5, .inl (m.1 47 0 (((24 * q) + 7).toNat))), (4, .inl ((256 * (m.1 47 0 (((24 * q) + 2).toNat))) + (m.1 47 0 (((24 * q) + 3).toNat)))), (3, .inl (m.1 47 0 (((24 * q) + 1).toNat))), (2, .inl (24 * q)), (0, .inr (.inr (.inl (some (34, 0))))), (1, .inl q)]) (st' := [.inl 1]) (m' := m) (o := none) rfl trivial ?_
                  exact ww_rB rfl rfl (by omega) ⟨_, rfl, rfl, rfl, by (exact Or.inl ⟨rfl, by omega, by omega, by omega, by omega, by omega, (show m.1 47 0 (24 * q + 6).toNat < zpb (m.1 47 0 (24 * q + 7).toNat) (m.1 47 0 (24 * q + 5).toNat) from by have z9 := hr17.2.2.2 (by omega); omega), (show m.1 50 0 (4 * m.1 47 0 (24 * q + 1).toNat).toNat = 0 ∨ m.1 50 0 (4 * m.1 47 0 (24 * q + 1).toNat).toNat ≤ 256 * m.1 47 0 (24 * q + 2).toNat + m.1 47 0 (24 * q + 3).toNat from by omega)⟩)⟩
          · show wW (zK sc) zM186 94 [(5, .inl (m.1 47 0 (((24 * q) + 7).toNat))), (4, .inl ((256 * (m.1 47 0 (((24 * q) + 2).toNat))) + (m.1 47 0 (((24 * q) + 3).toNat)))), (3, .inl (m.1 47 0 (((24 * q) + 1).toNat))), (2, .inl (24 * q)), (0, .inr (.inr (.inl (some (34, 0))))), (1, .inl q)] [] _ _ _
            refine ww_go 1 (pc' := 95) (L' := [(5, .inl (m.1 47 0 (((24 * q) + 7).toNat))), (4, .inl ((256 * (m.1 47 0 (((24 * q) + 2).toNat))) + (m.1 47 0 (((24 * q) + 3).toNat)))), (3, .inl (m.1 47 0 (((24 * q) + 1).toNat))), (2, .inl (24 * q)), (0, .inr (.inr (.inl (some (34, 0))))), (1, .inl q)]) (st' := [.inl 0]) (m' := m) (o := none) rfl trivial ?_
            exact ww_rB rfl rfl (by omega) ⟨_, rfl, rfl, rfl, by (exact Or.inr ⟨rfl, fun zz => (by obtain ⟨a1, a2, a3, a4, a5, a6, a7⟩ := zz; have b6 : m.1 47 0 (24 * q + 6).toNat < zpb (m.1 47 0 (24 * q + 7).toNat) (m.1 47 0 (24 * q + 5).toNat) := a6; have b7 : m.1 50 0 (4 * m.1 47 0 (24 * q + 1).toNat).toNat = 0 ∨ m.1 50 0 (4 * m.1 47 0 (24 * q + 1).toNat).toNat ≤ 256 * m.1 47 0 (24 * q + 2).toNat + m.1 47 0 (24 * q + 3).toNat := a7; omega)⟩)⟩
