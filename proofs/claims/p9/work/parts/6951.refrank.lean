set_option maxRecDepth 8000 in
/-- Mo.rank -/
theorem yt232 {sc : xSc} {n : Nat × Nat} {m0 : wm} {c : Int} (hc : 0 ≤ c ∧ c ≤ 1000000) (f : Int) (x : Int) (y : Int) (b : Int) (hG : zB c m0) (h0 : -2147483648 ≤ f ∧ f ≤ 2147483647 ∧ -2147483648 ≤ x ∧ x ≤ 2147483647 ∧ -2147483648 ≤ y ∧ y ≤ 2147483647 ∧ -2147483648 ≤ b ∧ b ≤ 2147483647) : wX (zK sc) 232 [.inr (.inr (.inl (some (34, 0)))), .inl f, .inl x, .inl y, .inl b] n m0 (wr (fun vv n1 m1 => ∃ r : Int, vv = some (.inl r) ∧ n = n1 ∧ zB c m1 ∧ zfr (fun k i j => (k = 34 ∧ j = 0)) m0 m1 ∧ ((m1.1 34 0 0 = 1 ∧ ¬ (0 ≤ f ∧ f ≤ 1 ∧ 1 ≤ x ∧ x ≤ 65535 ∧ 0 ≤ y ∧ y ≤ 6 ∧ 0 ≤ b ∧ b ≤ 1)) ∨ (m1.1 34 0 0 = 0 ∧ (0 ≤ f ∧ f ≤ 1 ∧ 1 ≤ x ∧ x ≤ 65535 ∧ 0 ≤ y ∧ y ≤ 6 ∧ 0 ≤ b ∧ b ≤ 1) ∧ zRkF m0 f x y b r)))) := by
  refine wX_of (N := zM232) rfl (Nat.le_of_ble_eq_true rfl) ?_
  show wW (zK sc) zM232 0 [(0, .inr (.inr (.inl (some (34, 0))))), (1, .inl f), (2, .inl x), (3, .inl y), (4, .inl b)] [] n m0 _
  have hF : zfr (fun k i j => (k = 34 ∧ j = 0)) m0 m0 := zfr_rf
  refine ww_go 4 (pc' := 4) (L' := [(0, .inr (.inr (.inl (some (34, 0))))), (1, .inl f), (2, .inl x), (3, .inl y), (4, .inl b)]) (st' := [.inl 1, .inl 0, .inl f, .inr (.inr (.inl (some (34, 0))))]) (m' := m0) (o := none) rfl trivial ?_
  refine ww_call (vs := [.inl f, .inl 0, .inl 1]) (r := [.inr (.inr (.inl (some (34, 0))))]) (p := True) rfl rfl rfl rfl trivial (zs207 f 0 1 (by omega)) ?_
  rintro _ _ _ ⟨r1, rfl, rfl, rfl, hr2⟩
  show wW (zK sc) zM232 7 [(0, .inr (.inr (.inl (some (34, 0))))), (1, .inl f), (2, .inl x), (3, .inl y), (4, .inl b)] [.inl r1, .inr (.inr (.inl (some (34, 0))))] _ _ _
  refine ww_if (t := 41) rfl rfl (by omega) (fun (h3 : r1 = 0) => ?_) (fun (h3 : ¬ (r1 = 0)) => ?_)
  · show wW (zK sc) zM232 41 [(0, .inr (.inr (.inl (some (34, 0))))), (1, .inl f), (2, .inl x), (3, .inl y), (4, .inl b)] [.inr (.inr (.inl (some (34, 0))))] _ _ _
    refine ww_go 3 (pc' := 47) (L' := [(0, .inr (.inr (.inl (some (34, 0))))), (1, .inl f), (2, .inl x), (3, .inl y), (4, .inl b)]) (st' := [.inl 1, .inl 1, .inr (.inr (.inl (some (34, 0))))]) (m' := m0) (o := none) rfl trivial ?_
    refine ww_call (vs := [.inr (.inr (.inl (some (34, 0)))), .inl 1, .inl 1]) (r := []) (p := 0 < 1) rfl rfl rfl rfl (show 0 < 1 from by omega) (zs196 (c := c) (by omega) 1 1 hG (by omega)) ?_
    rintro _ _ m6 ⟨r4, rfl, rfl, hGm6, hEm6, hr5⟩
    have hFm6 : zfr (fun k i j => (k = 34 ∧ j = 0)) m0 m6 := zfr_tr hF hEm6 (fun k i j z => z)
    show wW (zK sc) zM232 50 [(0, .inr (.inr (.inl (some (34, 0))))), (1, .inl f), (2, .inl x), (3, .inl y), (4, .inl b)] [.inl r4] _ _ _
    refine ww_if (t := 55) rfl rfl (by omega) (fun (h7 : r4 = 0) => ?_) (fun (h7 : ¬ (r4 = 0)) => ?_)
    · show wW (zK sc) zM232 55 [(0, .inr (.inr (.inl (some (34, 0))))), (1, .inl f), (2, .inl x), (3, .inl y), (4, .inl b)] [] _ _ _
      refine ww_go 3 (pc' := 58) (L' := [(0, .inr (.inr (.inl (some (34, 0))))), (1, .inl f), (2, .inl x), (3, .inl y), (4, .inl b)]) (st' := [.inl x, .inl f, .inr (.inr (.inl (some (34, 0))))]) (m' := m6) (o := none) rfl trivial ?_
      refine ww_call (vs := [.inr (.inr (.inl (some (34, 0)))), .inl f, .inl x]) (r := []) (p := 0 < 1) rfl rfl rfl rfl (show 0 < 1 from by omega) (yt231 (c := c) (by omega) f x hGm6 (by omega)) ?_
      rintro _ _ _ ⟨r8, rfl, rfl, rfl, hr9⟩
      show wW (zK sc) zM232 61 [(0, .inr (.inr (.inl (some (34, 0))))), (1, .inl f), (2, .inl x), (3, .inl y), (4, .inl b)] [.inl r8] _ _ _
      refine ww_go 2 (pc' := 65) (L' := [(5, .inl r8), (0, .inr (.inr (.inl (some (34, 0))))), (1, .inl f), (2, .inl x), (3, .inl y), (4, .inl b)]) (st' := [.inl r8]) (m' := m6) (o := none) rfl trivial ?_
      refine ww_if (t := 70) rfl rfl (by omega) (fun (h10 : 0 ≤ r8) => ?_) (fun (h10 : ¬ (0 ≤ r8)) => ?_)
      · show wW (zK sc) zM232 70 [(5, .inl r8), (0, .inr (.inr (.inl (some (34, 0))))), (1, .inl f), (2, .inl x), (3, .inl y), (4, .inl b)] [] _ _ _
        have b11 : 0 ≤ m6.1 55 0 (((2 * ((7 * r8) + y)) + b).toNat) ∧ m6.1 55 0 (((2 * ((7 * r8) + y)) + b).toNat) ≤ 1 := hGm6.1 55 _ rfl _ _
        refine ww_go 12 (pc' := 87) (L' := [(5, .inl r8), (0, .inr (.inr (.inl (some (34, 0))))), (1, .inl f), (2, .inl x), (3, .inl y), (4, .inl b)]) (st' := [.inl (m6.1 55 0 (((2 * ((7 * r8) + y)) + b).toNat))]) (m' := m6) (o := some ((0 < 1) ∧ (0 < 1 ∧ 0 ≤ (2 * ((7 * r8) + y)) + b ∧ (2 * ((7 * r8) + y)) + b < ((112 : Nat) : Int)))) rfl (show (0 < 1) ∧ (0 < 1 ∧ 0 ≤ (2 * ((7 * r8) + y)) + b ∧ (2 * ((7 * r8) + y)) + b < ((112 : Nat) : Int)) from by omega) ?_
        refine ww_if (t := 95) rfl rfl (by omega) (fun (h12 : m6.1 55 0 (((2 * ((7 * r8) + y)) + b).toNat) = 0) => ?_) (fun (h12 : ¬ (m6.1 55 0 (((2 * ((7 * r8) + y)) + b).toNat) = 0)) => ?_)
        · show wW (zK sc) zM232 95 [(5, .inl r8), (0, .inr (.inr (.inl (some (34, 0))))), (1, .inl f), (2, .inl x), (3, .inl y), (4, .inl b)] [] _ _ _
          refine ww_go 7 (pc' := 105) (L' := [(5, .inl r8), (0, .inr (.inr (.inl (some (34, 0))))), (1, .inl f), (2, .inl x), (3, .inl y), (4, .inl b)]) (st' := [.inl b, .inl ((7 * r8) + y), .inr (.inr (.inl (some (34, 0))))]) (m' := m6) (o := none) rfl trivial ?_
          refine ww_call (vs := [.inr (.inr (.inl (some (34, 0)))), .inl ((7 * r8) + y), .inl b]) (r := []) (p := 0 < 1) rfl rfl rfl rfl (show 0 < 1 from by omega) (yt240 (c := c) (by omega) ((7 * r8) + y) b hGm6 (by omega)) ?_
          rintro _ _ _ ⟨r13, rfl, rfl, rfl, hr14⟩
          show wW (zK sc) zM232 108 [(5, .inl r8), (0, .inr (.inr (.inl (some (34, 0))))), (1, .inl f), (2, .inl x), (3, .inl y), (4, .inl b)] [.inl r13] _ _ _
          exact ww_rI rfl rfl ⟨_, rfl, rfl, zB_mono hGm6 (by omega), hFm6, Or.inr ⟨by omega, by omega, m6, zfr_tr zfr_rf hEm6 (fun k i j z => z), Or.inr ⟨r8, hr9.elim (fun z => absurd z.1 (by omega)) (fun z => z), Or.inr ⟨by omega, hr14.2⟩⟩⟩⟩
        · show wW (zK sc) zM232 90 [(5, .inl r8), (0, .inr (.inr (.inl (some (34, 0))))), (1, .inl f), (2, .inl x), (3, .inl y), (4, .inl b)] [] _ _ _
          refine ww_go 2 (pc' := 108) (L' := [(5, .inl r8), (0, .inr (.inr (.inl (some (34, 0))))), (1, .inl f), (2, .inl x), (3, .inl y), (4, .inl b)]) (st' := [.inl 8]) (m' := m6) (o := none) rfl trivial ?_
          exact ww_rI rfl rfl ⟨_, rfl, rfl, zB_mono hGm6 (by omega), hFm6, Or.inr ⟨by omega, by omega, m6, zfr_tr zfr_rf hEm6 (fun k i j z => z), Or.inr ⟨r8, hr9.elim (fun z => absurd z.1 (by omega)) (fun z => z), Or.inl ⟨by omega, rfl⟩⟩⟩⟩
      · show wW (zK sc) zM232 68 [(5, .inl r8), (0, .inr (.inr (.inl (some (34, 0))))), (1, .inl f), (2, .inl x), (3, .inl y), (4, .inl b)] [] _ _ _
        refine ww_go 1 (pc' := 69) (L' := [(5, .inl r8), (0, .inr (.inr (.inl (some (34, 0))))), (1, .inl f), (2, .inl x), (3, .inl y), (4, .inl b)]) (st' := [.inl 0]) (m' := m6) (o := none) rfl trivial ?_
        exact ww_rI rfl rfl ⟨_, rfl, rfl, zB_mono hGm6 (by omega), hFm6, Or.inr ⟨by omega, by omega, m6, zfr_tr zfr_rf hEm6 (fun k i j z => z), Or.inl ⟨hr9.elim (fun z => z.2) (fun z => absurd z.1 (by omega)), rfl⟩⟩⟩
    · show wW (zK sc) zM232 53 [(0, .inr (.inr (.inl (some (34, 0))))), (1, .inl f), (2, .inl x), (3, .inl y), (4, .inl b)] [] _ _ _
      refine ww_go 1 (pc' := 54) (L' := [(0, .inr (.inr (.inl (some (34, 0))))), (1, .inl f), (2, .inl x), (3, .inl y), (4, .inl b)]) (st' := [.inl 0]) (m' := m6) (o := none) rfl trivial ?_
      exact ww_rI rfl rfl ⟨_, rfl, rfl, zB_mono hGm6 (by omega), hFm6, Or.inl ⟨by omega, by omega⟩⟩
  · show wW (zK sc) zM232 10 [(0, .inr (.inr (.inl (some (34, 0))))), (1, .inl f), (2, .inl x), (3, .inl y), (4, .inl b)] [.inr (.inr (.inl (some (34, 0))))] _ _ _
    refine ww_go 3 (pc' := 15) (L' := [(0, .inr (.inr (.inl (some (34, 0))))), (1, .inl f), (2, .inl x), (3, .inl y), (4, .inl b)]) (st' := [.inl 65535, .inl 1, .inl x, .inr (.inr (.inl (some (34, 0))))]) (m' := m0) (o := none) rfl trivial ?_
    refine ww_call (vs := [.inl x, .inl 1, .inl 65535]) (r := [.inr (.inr (.inl (some (34, 0))))]) (p := True) rfl rfl rfl rfl trivial (zs207 x 1 65535 (by omega)) ?_
    rintro _ _ _ ⟨r15, rfl, rfl, rfl, hr16⟩
    show wW (zK sc) zM232 18 [(0, .inr (.inr (.inl (some (34, 0))))), (1, .inl f), (2, .inl x), (3, .inl y), (4, .inl b)] [.inl r15, .inr (.inr (.inl (some (34, 0))))] _ _ _
    refine ww_if (t := 41) rfl rfl (by omega) (fun (h17 : r15 = 0) => ?_) (fun (h17 : ¬ (r15 = 0)) => ?_)
    · show wW (zK sc) zM232 41 [(0, .inr (.inr (.inl (some (34, 0))))), (1, .inl f), (2, .inl x), (3, .inl y), (4, .inl b)] [.inr (.inr (.inl (some (34, 0))))] _ _ _
      refine ww_go 3 (pc' := 47) (L' := [(0, .inr (.inr (.inl (some (34, 0))))), (1, .inl f), (2, .inl x), (3, .inl y), (4, .inl b)]) (st' := [.inl 1, .inl 1, .inr (.inr (.inl (some (34, 0))))]) (m' := m0) (o := none) rfl trivial ?_
      refine ww_call (vs := [.inr (.inr (.inl (some (34, 0)))), .inl 1, .inl 1]) (r := []) (p := 0 < 1) rfl rfl rfl rfl (show 0 < 1 from by omega) (zs196 (c := c) (by omega) 1 1 hG (by omega)) ?_
      rintro _ _ m20 ⟨r18, rfl, rfl, hGm20, hEm20, hr19⟩
      have hFm20 : zfr (fun k i j => (k = 34 ∧ j = 0)) m0 m20 := zfr_tr hF hEm20 (fun k i j z => z)
      show wW (zK sc) zM232 50 [(0, .inr (.inr (.inl (some (34, 0))))), (1, .inl f), (2, .inl x), (3, .inl y), (4, .inl b)] [.inl r18] _ _ _
      refine ww_if (t := 55) rfl rfl (by omega) (fun (h21 : r18 = 0) => ?_) (fun (h21 : ¬ (r18 = 0)) => ?_)
      · show wW (zK sc) zM232 55 [(0, .inr (.inr (.inl (some (34, 0))))), (1, .inl f), (2, .inl x), (3, .inl y), (4, .inl b)] [] _ _ _
        refine ww_go 3 (pc' := 58) (L' := [(0, .inr (.inr (.inl (some (34, 0))))), (1, .inl f), (2, .inl x), (3, .inl y), (4, .inl b)]) (st' := [.inl x, .inl f, .inr (.inr (.inl (some (34, 0))))]) (m' := m20) (o := none) rfl trivial ?_
        refine ww_call (vs := [.inr (.inr (.inl (some (34, 0)))), .inl f, .inl x]) (r := []) (p := 0 < 1) rfl rfl rfl rfl (show 0 < 1 from by omega) (yt231 (c := c) (by omega) f x hGm20 (by omega)) ?_
        rintro _ _ _ ⟨r22, rfl, rfl, rfl, hr23⟩
        show wW (zK sc) zM232 61 [(0, .inr (.inr (.inl (some (34, 0))))), (1, .inl f), (2, .inl x), (3, .inl y), (4, .inl b)] [.inl r22] _ _ _
        refine ww_go 2 (pc' := 65) (L' := [(5, .inl r22), (0, .inr (.inr (.inl (some (34, 0))))), (1, .inl f), (2, .inl x), (3, .inl y), (4, .inl b)]) (st' := [.inl r22]) (m' := m20) (o := none) rfl trivial ?_
        refine ww_if (t := 70) rfl rfl (by omega) (fun (h24 : 0 ≤ r22) => ?_) (fun (h24 : ¬ (0 ≤ r22)) => ?_)
        · show wW (zK sc) zM232 70 [(5, .inl r22), (0, .inr (.inr (.inl (some (34, 0))))), (1, .inl f), (2, .inl x), (3, .inl y), (4, .inl b)] [] _ _ _
          have b25 : 0 ≤ m20.1 55 0 (((2 * ((7 * r22) + y)) + b).toNat) ∧ m20.1 55 0 (((2 * ((7 * r22) + y)) + b).toNat) ≤ 1 := hGm20.1 55 _ rfl _ _
          refine ww_go 12 (pc' := 87) (L' := [(5, .inl r22), (0, .inr (.inr (.inl (some (34, 0))))), (1, .inl f), (2, .inl x), (3, .inl y), (4, .inl b)]) (st' := [.inl (m20.1 55 0 (((2 * ((7 * r22) + y)) + b).toNat))]) (m' := m20) (o := some ((0 < 1) ∧ (0 < 1 ∧ 0 ≤ (2 * ((7 * r22) + y)) + b ∧ (2 * ((7 * r22) + y)) + b < ((112 : Nat) : Int)))) rfl (show (0 < 1) ∧ (0 < 1 ∧ 0 ≤ (2 * ((7 * r22) + y)) + b ∧ (2 * ((7 * r22) + y)) + b < ((112 : Nat) : Int)) from by omega) ?_
          refine ww_if (t := 95) rfl rfl (by omega) (fun (h26 : m20.1 55 0 (((2 * ((7 * r22) + y)) + b).toNat) = 0) => ?_) (fun (h26 : ¬ (m20.1 55 0 (((2 * ((7 * r22) + y)) + b).toNat) = 0)) => ?_)
          · show wW (zK sc) zM232 95 [(5, .inl r22), (0, .inr (.inr (.inl (some (34, 0))))), (1, .inl f), (2, .inl x), (3, .inl y), (4, .inl b)] [] _ _ _
            refine ww_go 7 (pc' := 105) (L' := [(5, .inl r22), (0, .inr (.inr (.inl (some (34, 0))))), (1, .inl f), (2, .inl x), (3, .inl y), (4, .inl b)]) (st' := [.inl b, .inl ((7 * r22) + y), .inr (.inr (.inl (some (34, 0))))]) (m' := m20) (o := none) rfl trivial ?_
            refine ww_call (vs := [.inr (.inr (.inl (some (34, 0)))), .inl ((7 * r22) + y), .inl b]) (r := []) (p := 0 < 1) rfl rfl rfl rfl (show 0 < 1 from by omega) (yt240 (c := c) (by omega) ((7 * r22) + y) b hGm20 (by omega)) ?_
            rintro _ _ _ ⟨r27, rfl, rfl, rfl, hr28⟩
            show wW (zK sc) zM232 108 [(5, .inl r22), (0, .inr (.inr (.inl (some (34, 0))))), (1, .inl f), (2, .inl x), (3, .inl y), (4, .inl b)] [.inl r27] _ _ _
            exact ww_rI rfl rfl ⟨_, rfl, rfl, zB_mono hGm20 (by omega), hFm20, Or.inr ⟨by omega, by omega, m20, zfr_tr zfr_rf hEm20 (fun k i j z => z), Or.inr ⟨r22, hr23.elim (fun z => absurd z.1 (by omega)) (fun z => z), Or.inr ⟨by omega, hr28.2⟩⟩⟩⟩
          · show wW (zK sc) zM232 90 [(5, .inl r22), (0, .inr (.inr (.inl (some (34, 0))))), (1, .inl f), (2, .inl x), (3, .inl y), (4, .inl b)] [] _ _ _
            refine ww_go 2 (pc' := 108) (L' := [(5, .inl r22), (0, .inr (.inr (.inl (some (34, 0))))), (1, .inl f), (2, .inl x), (3, .inl y), (4, .inl b)]) (st' := [.inl 8]) (m' := m20) (o := none) rfl trivial ?_
            exact ww_rI rfl rfl ⟨_, rfl, rfl, zB_mono hGm20 (by omega), hFm20, Or.inr ⟨by omega, by omega, m20, zfr_tr zfr_rf hEm20 (fun k i j z => z), Or.inr ⟨r22, hr23.elim (fun z => absurd z.1 (by omega)) (fun z => z), Or.inl ⟨by omega, rfl⟩⟩⟩⟩
        · show wW (zK sc) zM232 68 [(5, .inl r22), (0, .inr (.inr (.inl (some (34, 0))))), (1, .inl f), (2, .inl x), (3, .inl y), (4, .inl b)] [] _ _ _
          refine ww_go 1 (pc' := 69) (L' := [(5, .inl r22), (0, .inr (.inr (.inl (some (34, 0))))), (1, .inl f), (2, .inl x), (3, .inl y), (4, .inl b)]) (st' := [.inl 0]) (m' := m20) (o := none) rfl trivial ?_
          exact ww_rI rfl rfl ⟨_, rfl, rfl, zB_mono hGm20 (by omega), hFm20, Or.inr ⟨by omega, by omega, m20, zfr_tr zfr_rf hEm20 (fun k i j z => z), Or.inl ⟨hr23.elim (fun z => z.2) (fun z => absurd z.1 (by omega)), rfl⟩⟩⟩
      · show wW (zK sc) zM232 53 [(0, .inr (.inr (.inl (some (34, 0))))), (1, .inl f), (2, .inl x), (3, .inl y), (4, .inl b)] [] _ _ _
        refine ww_go 1 (pc' := 54) (L' := [(0, .inr (.inr (.inl (some (34, 0))))), (1, .inl f), (2, .inl x), (3, .inl y), (4, .inl b)]) (st' := [.inl 0]) (m' := m20) (o := none) rfl trivial ?_
        exact ww_rI rfl rfl ⟨_, rfl, rfl, zB_mono hGm20 (by omega), hFm20, Or.inl ⟨by omega, by omega⟩⟩
    · show wW (zK sc) zM232 21 [(0, .inr (.inr (.inl (some (34, 0))))), (1, .inl f), (2, .inl x), (3, .inl y), (4, .inl b)] [.inr (.inr (.inl (some (34, 0))))] _ _ _
      refine ww_go 3 (pc' := 25) (L' := [(0, .inr (.inr (.inl (some (34, 0))))), (1, .inl f), (2, .inl x), (3, .inl y), (4, .inl b)]) (st' := [.inl 6, .inl 0, .inl y, .inr (.inr (.inl (some (34, 0))))]) (m' := m0) (o := none) rfl trivial ?_
      refine ww_call (vs := [.inl y, .inl 0, .inl 6]) (r := [.inr (.inr (.inl (some (34, 0))))]) (p := True) rfl rfl rfl rfl trivial (zs207 y 0 6 (by omega)) ?_
      rintro _ _ _ ⟨r29, rfl, rfl, rfl, hr30⟩
      show wW (zK sc) zM232 28 [(0, .inr (.inr (.inl (some (34, 0))))), (1, .inl f), (2, .inl x), (3, .inl y), (4, .inl b)] [.inl r29, .inr (.inr (.inl (some (34, 0))))] _ _ _
      refine ww_if (t := 41) rfl rfl (by omega) (fun (h31 : r29 = 0) => ?_) (fun (h31 : ¬ (r29 = 0)) => ?_)
      · show wW (zK sc) zM232 41 [(0, .inr (.inr (.inl (some (34, 0))))), (1, .inl f), (2, .inl x), (3, .inl y), (4, .inl b)] [.inr (.inr (.inl (some (34, 0))))] _ _ _
        refine ww_go 3 (pc' := 47) (L' := [(0, .inr (.inr (.inl (some (34, 0))))), (1, .inl f), (2, .inl x), (3, .inl y), (4, .inl b)]) (st' := [.inl 1, .inl 1, .inr (.inr (.inl (some (34, 0))))]) (m' := m0) (o := none) rfl trivial ?_
        refine ww_call (vs := [.inr (.inr (.inl (some (34, 0)))), .inl 1, .inl 1]) (r := []) (p := 0 < 1) rfl rfl rfl rfl (show 0 < 1 from by omega) (zs196 (c := c) (by omega) 1 1 hG (by omega)) ?_
        rintro _ _ m34 ⟨r32, rfl, rfl, hGm34, hEm34, hr33⟩
        have hFm34 : zfr (fun k i j => (k = 34 ∧ j = 0)) m0 m34 := zfr_tr hF hEm34 (fun k i j z => z)
        show wW (zK sc) zM232 50 [(0, .inr (.inr (.inl (some (34, 0))))), (1, .inl f), (2, .inl x), (3, .inl y), (4, .inl b)] [.inl r32] _ _ _
        refine ww_if (t := 55) rfl rfl (by omega) (fun (h35 : r32 = 0) => ?_) (fun (h35 : ¬ (r32 = 0)) => ?_)
        · show wW (zK sc) zM232 55 [(0, .inr (.inr (.inl (some (34, 0))))), (1, .inl f), (2, .inl x), (3, .inl y), (4, .inl b)] [] _ _ _
          refine ww_go 3 (pc' := 58) (L' := [(0, .inr (.inr (.inl (some (34, 0))))), (1, .inl f), (2, .inl x), (3, .inl y), (4, .inl b)]) (st' := [.inl x, .inl f, .inr (.inr (.inl (some (34, 0))))]) (m' := m34) (o := none) rfl trivial ?_
          refine ww_call (vs := [.inr (.inr (.inl (some (34, 0)))), .inl f, .inl x]) (r := []) (p := 0 < 1) rfl rfl rfl rfl (show 0 < 1 from by omega) (yt231 (c := c) (by omega) f x hGm34 (by omega)) ?_
          rintro _ _ _ ⟨r36, rfl, rfl, rfl, hr37⟩
          show wW (zK sc) zM232 61 [(0, .inr (.inr (.inl (some (34, 0))))), (1, .inl f), (2, .inl x), (3, .inl y), (4, .inl b)] [.inl r36] _ _ _
          refine ww_go 2 (pc' := 65) (L' := [(5, .inl r36), (0, .inr (.inr (.inl (some (34, 0))))), (1, .inl f), (2, .inl x), (3, .inl y), (4, .inl b)]) (st' := [.inl r36]) (m' := m34) (o := none) rfl trivial ?_
          refine ww_if (t := 70) rfl rfl (by omega) (fun (h38 : 0 ≤ r36) => ?_) (fun (h38 : ¬ (0 ≤ r36)) => ?_)
          · show wW (zK sc) zM232 70 [(5, .inl r36), (0, .inr (.inr (.inl (some (34, 0))))), (1, .inl f), (2, .inl x), (3, .inl y), (4, .inl b)] [] _ _ _
            have b39 : 0 ≤ m34.1 55 0 (((2 * ((7 * r36) + y)) + b).toNat) ∧ m34.1 55 0 (((2 * ((7 * r36) + y)) + b).toNat) ≤ 1 := hGm34.1 55 _ rfl _ _
            refine ww_go 12 (pc' := 87) (L' := [(5, .inl r36), (0, .inr (.inr (.inl (some (34, 0))))), (1, .inl f), (2, .inl x), (3, .inl y), (4, .inl b)]) (st' := [.inl (m34.1 55 0 (((2 * ((7 * r36) + y)) + b).toNat))]) (m' := m34) (o := some ((0 < 1) ∧ (0 < 1 ∧ 0 ≤ (2 * ((7 * r36) + y)) + b ∧ (2 * ((7 * r36) + y)) + b < ((112 : Nat) : Int)))) rfl (show (0 < 1) ∧ (0 < 1 ∧ 0 ≤ (2 * ((7 * r36) + y)) + b ∧ (2 * ((7 * r36) + y)) + b < ((112 : Nat) : Int)) from by omega) ?_
            refine ww_if (t := 95) rfl rfl (by omega) (fun (h40 : m34.1 55 0 (((2 * ((7 * r36) + y)) + b).toNat) = 0) => ?_) (fun (h40 : ¬ (m34.1 55 0 (((2 * ((7 * r36) + y)) + b).toNat) = 0)) => ?_)
            · show wW (zK sc) zM232 95 [(5, .inl r36), (0, .inr (.inr (.inl (some (34, 0))))), (1, .inl f), (2, .inl x), (3, .inl y), (4, .inl b)] [] _ _ _
              refine ww_go 7 (pc' := 105) (L' := [(5, .inl r36), (0, .inr (.inr (.inl (some (34, 0))))), (1, .inl f), (2, .inl x), (3, .inl y), (4, .inl b)]) (st' := [.inl b, .inl ((7 * r36) + y), .inr (.inr (.inl (some (34, 0))))]) (m' := m34) (o := none) rfl trivial ?_
              refine ww_call (vs := [.inr (.inr (.inl (some (34, 0)))), .inl ((7 * r36) + y), .inl b]) (r := []) (p := 0 < 1) rfl rfl rfl rfl (show 0 < 1 from by omega) (yt240 (c := c) (by omega) ((7 * r36) + y) b hGm34 (by omega)) ?_
              rintro _ _ _ ⟨r41, rfl, rfl, rfl, hr42⟩
              show wW (zK sc) zM232 108 [(5, .inl r36), (0, .inr (.inr (.inl (some (34, 0))))), (1, .inl f), (2, .inl x), (3, .inl y), (4, .inl b)] [.inl r41] _ _ _
              exact ww_rI rfl rfl ⟨_, rfl, rfl, zB_mono hGm34 (by omega), hFm34, Or.inr ⟨by omega, by omega, m34, zfr_tr zfr_rf hEm34 (fun k i j z => z), Or.inr ⟨r36, hr37.elim (fun z => absurd z.1 (by omega)) (fun z => z), Or.inr ⟨by omega, hr42.2⟩⟩⟩⟩
            · show wW (zK sc) zM232 90 [(5, .inl r36), (0, .inr (.inr (.inl (some (34, 0))))), (1, .inl f), (2, .inl x), (3, .inl y), (4, .inl b)] [] _ _ _
              refine ww_go 2 (pc' := 108) (L' := [(5, .inl r36), (0, .inr (.inr (.inl (some (34, 0))))), (1, .inl f), (2, .inl x), (3, .inl y), (4, .inl b)]) (st' := [.inl 8]) (m' := m34) (o := none) rfl trivial ?_
              exact ww_rI rfl rfl ⟨_, rfl, rfl, zB_mono hGm34 (by omega), hFm34, Or.inr ⟨by omega, by omega, m34, zfr_tr zfr_rf hEm34 (fun k i j z => z), Or.inr ⟨r36, hr37.elim (fun z => absurd z.1 (by omega)) (fun z => z), Or.inl ⟨by omega, rfl⟩⟩⟩⟩
          · show wW (zK sc) zM232 68 [(5, .inl r36), (0, .inr (.inr (.inl (some (34, 0))))), (1, .inl f), (2, .inl x), (3, .inl y), (4, .inl b)] [] _ _ _
            refine ww_go 1 (pc' := 69) (L' := [(5, .inl r36), (0, .inr (.inr (.inl (some (34, 0))))), (1, .inl f), (2, .inl x), (3, .inl y), (4, .inl b)]) (st' := [.inl 0]) (m' := m34) (o := none) rfl trivial ?_
            exact ww_rI rfl rfl ⟨_, rfl, rfl, zB_mono hGm34 (by omega), hFm34, Or.inr ⟨by omega, by omega, m34, zfr_tr zfr_rf hEm34 (fun k i j z => z), Or.inl ⟨hr37.elim (fun z => z.2) (fun z => absurd z.1 (by omega)), rfl⟩⟩⟩
        · show wW (zK sc) zM232 53 [(0, .inr (.inr (.inl (some (34, 0))))), (1, .inl f), (2, .inl x), (3, .inl y), (4, .inl b)] [] _ _ _
          refine ww_go 1 (pc' := 54) (L' := [(0, .inr (.inr (.inl (some (34, 0))))), (1, .inl f), (2, .inl x), (3, .inl y), (4, .inl b)]) (st' := [.inl 0]) (m' := m34) (o := none) rfl trivial ?_
          exact ww_rI rfl rfl ⟨_, rfl, rfl, zB_mono hGm34 (by omega), hFm34, Or.inl ⟨by omega, by omega⟩⟩
      · show wW (zK sc) zM232 31 [(0, .inr (.inr (.inl (some (34, 0))))), (1, .inl f), (2, .inl x), (3, .inl y), (4, .inl b)] [.inr (.inr (.inl (some (34, 0))))] _ _ _
        refine ww_go 3 (pc' := 35) (L' := [(0, .inr (.inr (.inl (some (34, 0))))), (1, .inl f), (2, .inl x), (3, .inl y), (4, .inl b)]) (st' := [.inl 1, .inl 0, .inl b, .inr (.inr (.inl (some (34, 0))))]) (m' := m0) (o := none) rfl trivial ?_
        refine ww_call (vs := [.inl b, .inl 0, .inl 1]) (r := [.inr (.inr (.inl (some (34, 0))))]) (p := True) rfl rfl rfl rfl trivial (zs207 b 0 1 (by omega)) ?_
        rintro _ _ _ ⟨r43, rfl, rfl, rfl, hr44⟩
        show wW (zK sc) zM232 38 [(0, .inr (.inr (.inl (some (34, 0))))), (1, .inl f), (2, .inl x), (3, .inl y), (4, .inl b)] [.inl r43, .inr (.inr (.inl (some (34, 0))))] _ _ _
        refine ww_if (t := 45) rfl rfl (by omega) (fun (h45 : r43 ≠ 0) => ?_) (fun (h45 : ¬ (r43 ≠ 0)) => ?_)
        · show wW (zK sc) zM232 45 [(0, .inr (.inr (.inl (some (34, 0))))), (1, .inl f), (2, .inl x), (3, .inl y), (4, .inl b)] [.inr (.inr (.inl (some (34, 0))))] _ _ _
          refine ww_go 2 (pc' := 47) (L' := [(0, .inr (.inr (.inl (some (34, 0))))), (1, .inl f), (2, .inl x), (3, .inl y), (4, .inl b)]) (st' := [.inl 1, .inl 0, .inr (.inr (.inl (some (34, 0))))]) (m' := m0) (o := none) rfl trivial ?_
          refine ww_call (vs := [.inr (.inr (.inl (some (34, 0)))), .inl 0, .inl 1]) (r := []) (p := 0 < 1) rfl rfl rfl rfl (show 0 < 1 from by omega) (zs196 (c := c) (by omega) 0 1 hG (by omega)) ?_
          rintro _ _ m48 ⟨r46, rfl, rfl, hGm48, hEm48, hr47⟩
          have hFm48 : zfr (fun k i j => (k = 34 ∧ j = 0)) m0 m48 := zfr_tr hF hEm48 (fun k i j z => z)
          show wW (zK sc) zM232 50 [(0, .inr (.inr (.inl (some (34, 0))))), (1, .inl f), (2, .inl x), (3, .inl y), (4, .inl b)] [.inl r46] _ _ _
          refine ww_if (t := 55) rfl rfl (by omega) (fun (h49 : r46 = 0) => ?_) (fun (h49 : ¬ (r46 = 0)) => ?_)
          · show wW (zK sc) zM232 55 [(0, .inr (.inr (.inl (some (34, 0))))), (1, .inl f), (2, .inl x), (3, .inl y), (4, .inl b)] [] _ _ _
            refine ww_go 3 (pc' := 58) (L' := [(0, .inr (.inr (.inl (some (34, 0))))), (1, .inl f), (2, .inl x), (3, .inl y), (4, .inl b)]) (st' := [.inl x, .inl f, .inr (.inr (.inl (some (34, 0))))]) (m' := m48) (o := none) rfl trivial ?_
            refine ww_call (vs := [.inr (.inr (.inl (some (34, 0)))), .inl f, .inl x]) (r := []) (p := 0 < 1) rfl rfl rfl rfl (show 0 < 1 from by omega) (yt231 (c := c) (by omega) f x hGm48 (by omega)) ?_
            rintro _ _ _ ⟨r50, rfl, rfl, rfl, hr51⟩
            show wW (zK sc) zM232 61 [(0, .inr (.inr (.inl (some (34, 0))))), (1, .inl f), (2, .inl x), (3, .inl y), (4, .inl b)] [.inl r50] _ _ _
            refine ww_go 2 (pc' := 65) (L' := [(5, .inl r50), (0, .inr (.inr (.inl (some (34, 0))))), (1, .inl f), (2, .inl x), (3, .inl y), (4, .inl b)]) (st' := [.inl r50]) (m' := m48) (o := none) rfl trivial ?_
            refine ww_if (t := 70) rfl rfl (by omega) (fun (h52 : 0 ≤ r50) => ?_) (fun (h52 : ¬ (0 ≤ r50)) => ?_)
            · show wW (zK sc) zM232 70 [(5, .inl r50), (0, .inr (.inr (.inl (some (34, 0))))), (1, .inl f), (2, .inl x), (3, .inl y), (4, .inl b)] [] _ _ _
              have b53 : 0 ≤ m48.1 55 0 (((2 * ((7 * r50) + y)) + b).toNat) ∧ m48.1 55 0 (((2 * ((7 * r50) + y)) + b).toNat) ≤ 1 := hGm48.1 55 _ rfl _ _
              refine ww_go 12 (pc' := 87) (L' := [(5, .inl r50), (0, .inr (.inr (.inl (some (34, 0))))), (1, .inl f), (2, .inl x), (3, .inl y), (4, .inl b)]) (st' := [.inl (m48.1 55 0 (((2 * ((7 * r50) + y)) + b).toNat))]) (m' := m48) (o := some ((0 < 1) ∧ (0 < 1 ∧ 0 ≤ (2 * ((7 * r50) + y)) + b ∧ (2 * ((7 * r50) + y)) + b < ((112 : Nat) : Int)))) rfl (show (0 < 1) ∧ (0 < 1 ∧ 0 ≤ (2 * ((7 * r50) + y)) + b ∧ (2 * ((7 * r50) + y)) + b < ((112 : Nat) : Int)) from by omega) ?_
              refine ww_if (t := 95) rfl rfl (by omega) (fun (h54 : m48.1 55 0 (((2 * ((7 * r50) + y)) + b).toNat) = 0) => ?_) (fun (h54 : ¬ (m48.1 55 0 (((2 * ((7 * r50) + y)) + b).toNat) = 0)) => ?_)
              · show wW (zK sc) zM232 95 [(5, .inl r50), (0, .inr (.inr (.inl (some (34, 0))))), (1, .inl f), (2, .inl x), (3, .inl y), (4, .inl b)] [] _ _ _
                refine ww_go 7 (pc' := 105) (L' := [(5, .inl r50), (0, .inr (.inr (.inl (some (34, 0))))), (1, .inl f), (2, .inl x), (3, .inl y), (4, .inl b)]) (st' := [.inl b, .inl ((7 * r50) + y), .inr (.inr (.inl (some (34, 0))))]) (m' := m48) (o := none) rfl trivial ?_
                refine ww_call (vs := [.inr (.inr (.inl (some (34, 0)))), .inl ((7 * r50) + y), .inl b]) (r := []) (p := 0 < 1) rfl rfl rfl rfl (show 0 < 1 from by omega) (yt240 (c := c) (by omega) ((7 * r50) + y) b hGm48 (by omega)) ?_
                rintro _ _ _ ⟨r55, rfl, rfl, rfl, hr56⟩
                show wW (zK sc) zM232 108 [(5, .inl r50), (0, .inr (.inr (.inl (some (34, 0))))), (1, .inl f), (2, .inl x), (3, .inl y), (4, .inl b)] [.inl r55] _ _ _
                exact ww_rI rfl rfl ⟨_, rfl, rfl, zB_mono hGm48 (by omega), hFm48, Or.inr ⟨by omega, by omega, m48, zfr_tr zfr_rf hEm48 (fun k i j z => z), Or.inr ⟨r50, hr51.elim (fun z => absurd z.1 (by omega)) (fun z => z), Or.inr ⟨by omega, hr56.2⟩⟩⟩⟩
              · show wW (zK sc) zM232 90 [(5, .inl r50), (0, .inr (.inr (.inl (some (34, 0))))), (1, .inl f), (2, .inl x), (3, .inl y), (4, .inl b)] [] _ _ _
                refine ww_go 2 (pc' := 108) (L' := [(5, .inl r50), (0, .inr (.inr (.inl (some (34, 0))))), (1, .inl f), (2, .inl x), (3, .inl y), (4, .inl b)]) (st' := [.inl 8]) (m' := m48) (o := none) rfl trivial ?_
                exact ww_rI rfl rfl ⟨_, rfl, rfl, zB_mono hGm48 (by omega), hFm48, Or.inr ⟨by omega, by omega, m48, zfr_tr zfr_rf hEm48 (fun k i j z => z), Or.inr ⟨r50, hr51.elim (fun z => absurd z.1 (by omega)) (fun z => z), Or.inl ⟨by omega, rfl⟩⟩⟩⟩
            · show wW (zK sc) zM232 68 [(5, .inl r50), (0, .inr (.inr (.inl (some (34, 0))))), (1, .inl f), (2, .inl x), (3, .inl y), (4, .inl b)] [] _ _ _
              refine ww_go 1 (pc' := 69) (L' := [(5, .inl r50), (0, .inr (.inr (.inl (some (34, 0))))), (1, .inl f), (2, .inl x), (3, .inl y), (4, .inl b)]) (st' := [.inl 0]) (m' := m48) (o := none) rfl trivial ?_
              exact ww_rI rfl rfl ⟨_, rfl, rfl, zB_mono hGm48 (by omega), hFm48, Or.inr ⟨by omega, by omega, m48, zfr_tr zfr_rf hEm48 (fun k i j z => z), Or.inl ⟨hr51.elim (fun z => z.2) (fun z => absurd z.1 (by omega)), rfl⟩⟩⟩
          · show wW (zK sc) zM232 53 [(0, .inr (.inr (.inl (some (34, 0))))), (1, .inl f), (2, .inl x), (3, .inl y), (4, .inl b)] [] _ _ _
            refine ww_go 1 (pc' := 54) (L' := [(0, .inr (.inr (.inl (some (34, 0))))), (1, .inl f), (2, .inl x), (3, .inl y), (4, .inl b)]) (st' := [.inl 0]) (m' := m48) (o := none) rfl trivial ?_
            exact ww_rI rfl rfl ⟨_, rfl, rfl, zB_mono hGm48 (by omega), hFm48, Or.inl ⟨by omega, by omega⟩⟩
        · show wW (zK sc) zM232 41 [(0, .inr (.inr (.inl (some (34, 0))))), (1, .inl f), (2, .inl x), (3, .inl y), (4, .inl b)] [.inr (.inr (.inl (some (34, 0))))] _ _ _
          refine ww_go 3 (pc' := 47) (L' := [(0, .inr (.inr (.inl (some (34, 0))))), (1, .inl f), (2, .inl x), (3, .inl y), (4, .inl b)]) (st' := [.inl 1, .inl 1, .inr (.inr (.inl (some (34, 0))))]) (m' := m0) (o := none) rfl trivial ?_
          refine ww_call (vs := [.inr (.inr (.inl (some (34, 0)))), .inl 1, .inl 1]) (r := []) (p := 0 < 1) rfl rfl rfl rfl (show 0 < 1 from by omega) (zs196 (c := c) (by omega) 1 1 hG (by omega)) ?_
          rintro _ _ m59 ⟨r57, rfl, rfl, hGm59, hEm59, hr58⟩
          have hFm59 : zfr (fun k i j => (k = 34 ∧ j = 0)) m0 m59 := zfr_tr hF hEm59 (fun k i j z => z)
          show wW (zK sc) zM232 50 [(0, .inr (.inr (.inl (some (34, 0))))), (1, .inl f), (2, .inl x), (3, .inl y), (4, .inl b)] [.inl r57] _ _ _
          refine ww_if (t := 55) rfl rfl (by omega) (fun (h60 : r57 = 0) => ?_) (fun (h60 : ¬ (r57 = 0)) => ?_)
          · show wW (zK sc) zM232 55 [(0, .inr (.inr (.inl (some (34, 0))))), (1, .inl f), (2, .inl x), (3, .inl y), (4, .inl b)] [] _ _ _
            refine ww_go 3 (pc' := 58) (L' := [(0, .inr (.inr (.inl (some (34, 0))))), (1, .inl f), (2, .inl x), (3, .inl y), (4, .inl b)]) (st' := [.inl x, .inl f, .inr (.inr (.inl (some (34, 0))))]) (m' := m59) (o := none) rfl trivial ?_
            refine ww_call (vs := [.inr (.inr (.inl (some (34, 0)))), .inl f, .inl x]) (r := []) (p := 0 < 1) rfl rfl rfl rfl (show 0 < 1 from by omega) (yt231 (c := c) (by omega) f x hGm59 (by omega)) ?_
            rintro _ _ _ ⟨r61, rfl, rfl, rfl, hr62⟩
            show wW (zK sc) zM232 61 [(0, .inr (.inr (.inl (some (34, 0))))), (1, .inl f), (2, .inl x), (3, .inl y), (4, .inl b)] [.inl r61] _ _ _
            refine ww_go 2 (pc' := 65) (L' := [(5, .inl r61), (0, .inr (.inr (.inl (some (34, 0))))), (1, .inl f), (2, .inl x), (3, .inl y), (4, .inl b)]) (st' := [.inl r61]) (m' := m59) (o := none) rfl trivial ?_
            refine ww_if (t := 70) rfl rfl (by omega) (fun (h63 : 0 ≤ r61) => ?_) (fun (h63 : ¬ (0 ≤ r61)) => ?_)
            · show wW (zK sc) zM232 70 [(5, .inl r61), (0, .inr (.inr (.inl (some (34, 0))))), (1, .inl f), (2, .inl x), (3, .inl y), (4, .inl b)] [] _ _ _
              have b64 : 0 ≤ m59.1 55 0 (((2 * ((7 * r61) + y)) + b).toNat) ∧ m59.1 55 0 (((2 * ((7 * r61) + y)) + b).toNat) ≤ 1 := hGm59.1 55 _ rfl _ _
              refine ww_go 12 (pc' := 87) (L' := [(5, .inl r61), (0, .inr (.inr (.inl (some (34, 0))))), (1, .inl f), (2, .inl x), (3, .inl y), (4, .inl b)]) (st' := [.inl (m59.1 55 0 (((2 * ((7 * r61) + y)) + b).toNat))]) (m' := m59) (o := some ((0 < 1) ∧ (0 < 1 ∧ 0 ≤ (2 * ((7 * r61) + y)) + b ∧ (2 * ((7 * r61) + y)) + b < ((112 : Nat) : Int)))) rfl (show (0 < 1) ∧ (0 < 1 ∧ 0 ≤ (2 * ((7 * r61) + y)) + b ∧ (2 * ((7 * r61) + y)) + b < ((112 : Nat) : Int)) from by omega) ?_
              refine ww_if (t := 95) rfl rfl (by omega) (fun (h65 : m59.1 55 0 (((2 * ((7 * r61) + y)) + b).toNat) = 0) => ?_) (fun (h65 : ¬ (m59.1 55 0 (((2 * ((7 * r61) + y)) + b).toNat) = 0)) => ?_)
              · show wW (zK sc) zM232 95 [(5, .inl r61), (0, .inr (.inr (.inl (some (34, 0))))), (1, .inl f), (2, .inl x), (3, .inl y), (4, .inl b)] [] _ _ _
                refine ww_go 7 (pc' := 105) (L' := [(5, .inl r61), (0, .inr (.inr (.inl (some (34, 0))))), (1, .inl f), (2, .inl x), (3, .inl y), (4, .inl b)]) (st' := [.inl b, .inl ((7 * r61) + y), .inr (.inr (.inl (some (34, 0))))]) (m' := m59) (o := none) rfl trivial ?_
                refine ww_call (vs := [.inr (.inr (.inl (some (34, 0)))), .inl ((7 * r61) + y), .inl b]) (r := []) (p := 0 < 1) rfl rfl rfl rfl (show 0 < 1 from by omega) (yt240 (c := c) (by omega) ((7 * r61) + y) b hGm59 (by omega)) ?_
                rintro _ _ _ ⟨r66, rfl, rfl, rfl, hr67⟩
                show wW (zK sc) zM232 108 [(5, .inl r61), (0, .inr (.inr (.inl (some (34, 0))))), (1, .inl f), (2, .inl x), (3, .inl y), (4, .inl b)] [.inl r66] _ _ _
                exact ww_rI rfl rfl ⟨_, rfl, rfl, zB_mono hGm59 (by omega), hFm59, Or.inr ⟨by omega, by omega, m59, zfr_tr zfr_rf hEm59 (fun k i j z => z), Or.inr ⟨r61, hr62.elim (fun z => absurd z.1 (by omega)) (fun z => z), Or.inr ⟨by omega, hr67.2⟩⟩⟩⟩
              · show wW (zK sc) zM232 90 [(5, .inl r61), (0, .inr (.inr (.inl (some (34, 0))))), (1, .inl f), (2, .inl x), (3, .inl y), (4, .inl b)] [] _ _ _
                refine ww_go 2 (pc' := 108) (L' := [(5, .inl r61), (0, .inr (.inr (.inl (some (34, 0))))), (1, .inl f), (2, .inl x), (3, .inl y), (4, .inl b)]) (st' := [.inl 8]) (m' := m59) (o := none) rfl trivial ?_
                exact ww_rI rfl rfl ⟨_, rfl, rfl, zB_mono hGm59 (by omega), hFm59, Or.inr ⟨by omega, by omega, m59, zfr_tr zfr_rf hEm59 (fun k i j z => z), Or.inr ⟨r61, hr62.elim (fun z => absurd z.1 (by omega)) (fun z => z), Or.inl ⟨by omega, rfl⟩⟩⟩⟩
            · show wW (zK sc) zM232 68 [(5, .inl r61), (0, .inr (.inr (.inl (some (34, 0))))), (1, .inl f), (2, .inl x), (3, .inl y), (4, .inl b)] [] _ _ _
              refine ww_go 1 (pc' := 69) (L' := [(5, .inl r61), (0, .inr (.inr (.inl (some (34, 0))))), (1, .inl f), (2, .inl x), (3, .inl y), (4, .inl b)]) (st' := [.inl 0]) (m' := m59) (o := none) rfl trivial ?_
              exact ww_rI rfl rfl ⟨_, rfl, rfl, zB_mono hGm59 (by omega), hFm59, Or.inr ⟨by omega, by omega, m59, zfr_tr zfr_rf hEm59 (fun k i j z => z), Or.inl ⟨hr62.elim (fun z => z.2) (fun z => absurd z.1 (by omega)), rfl⟩⟩⟩
          · show wW (zK sc) zM232 53 [(0, .inr (.inr (.inl (some (34, 0))))), (1, .inl f), (2, .inl x), (3, .inl y), (4, .inl b)] [] _ _ _
            refine ww_go 1 (pc' := 54) (L' := [(0, .inr (.inr (.inl (some (34, 0))))), (1, .inl f), (2, .inl x), (3, .inl y), (4, .inl b)]) (st' := [.inl 0]) (m' := m59) (o := none) rfl trivial ?_
            exact ww_rI rfl rfl ⟨_, rfl, rfl, zB_mono hGm59 (by omega), hFm59, Or.inl ⟨by omega, by omega⟩⟩
set_option maxRecDepth 8000 in
/-- Mo.count -/
theorem yt191 {sc : xSc} {n : Nat × Nat} {m0 : wm} {c : Int} (hc : 0 ≤ c ∧ c ≤ 1000000) (x : Int) (hG : zB c m0) (h0 : -2147483648 ≤ x ∧ x ≤ 2147483647) : wX (zK sc) 191 [.inr (.inr (.inl (some (34, 0)))), .inl x] n m0 (wr (fun vv n1 m1 => ∃ r : Int, vv = some (.inl r) ∧ n = n1 ∧ zB c m1 ∧ zfr (fun k i j => (k = 34 ∧ j = 0)) m0 m1 ∧ ((m1.1 34 0 0 = 1 ∧ ¬ (0 ≤ x ∧ x ≤ 2)) ∨ (m1.1 34 0 0 = 0 ∧ (0 ≤ x ∧ x ≤ 2) ∧ (x = 0 → r = m0.1 34 0 35) ∧ (x = 1 → r = m0.1 34 0 30) ∧ (x = 2 → r = m0.1 34 0 16))))) := by
  refine wX_of (N := zM191) rfl (Nat.le_of_ble_eq_true rfl) ?_
  show wW (zK sc) zM191 0 [(0, .inr (.inr (.inl (some (34, 0))))), (1, .inl x)] [] n m0 _
  have hF : zfr (fun k i j => (k = 34 ∧ j = 0)) m0 m0 := zfr_rf
  refine ww_go 4 (pc' := 4) (L' := [(0, .inr (.inr (.inl (some (34, 0))))), (1, .inl x)]) (st' := [.inl 2, .inl 0, .inl x, .inr (.inr (.inl (some (34, 0))))]) (m' := m0) (o := none) rfl trivial ?_
  refine ww_call (vs := [.inl x, .inl 0, .inl 2]) (r := [.inr (.inr (.inl (some (34, 0))))]) (p := True) rfl rfl rfl rfl trivial (zs207 x 0 2 (by omega)) ?_
  rintro _ _ _ ⟨r1, rfl, rfl, rfl, hr2⟩
  show wW (zK sc) zM191 7 [(0, .inr (.inr (.inl (some (34, 0))))), (1, .inl x)] [.inl r1, .inr (.inr (.inl (some (34, 0))))] _ _ _
  refine ww_if (t := 14) rfl rfl (by omega) (fun (h3 : r1 ≠ 0) => ?_) (fun (h3 : ¬ (r1 ≠ 0)) => ?_)
  · show wW (zK sc) zM191 14 [(0, .inr (.inr (.inl (some (34, 0))))), (1, .inl x)] [.inr (.inr (.inl (some (34, 0))))] _ _ _
    refine ww_go 2 (pc' := 16) (L' := [(0, .inr (.inr (.inl (some (34, 0))))), (1, .inl x)]) (st' := [.inl 1, .inl 0, .inr (.inr (.inl (some (34, 0))))]) (m' := m0) (o := none) rfl trivial ?_
    refine ww_call (vs := [.inr (.inr (.inl (some (34, 0)))), .inl 0, .inl 1]) (r := []) (p := 0 < 1) rfl rfl rfl rfl (show 0 < 1 from by omega) (zs196 (c := c) (by omega) 0 1 hG (by omega)) ?_
    rintro _ _ m6 ⟨r4, rfl, rfl, hGm6, hEm6, hr5⟩
    have hFm6 : zfr (fun k i j => (k = 34 ∧ j = 0)) m0 m6 := zfr_tr hF hEm6 (fun k i j z => z)
    have w7 : m6.1 34 0 35 = m0.1 34 0 35 := (hEm6 34 0 35 (show ¬ ((34 = 34 ∧ 35 = 0)) from by omega)).1
    have w8 : m6.1 34 0 30 = m0.1 34 0 30 := (hEm6 34 0 30 (show ¬ ((34 = 34 ∧ 30 = 0)) from by omega)).1
    have w9 : m6.1 34 0 16 = m0.1 34 0 16 := (hEm6 34 0 16 (show ¬ ((34 = 34 ∧ 16 = 0)) from by omega)).1
    show wW (zK sc) zM191 19 [(0, .inr (.inr (.inl (some (34, 0))))), (1, .inl x)] [.inl r4] _ _ _
    refine ww_if (t := 24) rfl rfl (by omega) (fun (h10 : r4 = 0) => ?_) (fun (h10 : ¬ (r4 = 0)) => ?_)
    · show wW (zK sc) zM191 24 [(0, .inr (.inr (.inl (some (34, 0))))), (1, .inl x)] [] _ _ _
      refine ww_go 1 (pc' := 25) (L' := [(0, .inr (.inr (.inl (some (34, 0))))), (1, .inl x)]) (st' := [.inl x]) (m' := m6) (o := none) rfl trivial ?_
      refine ww_if (t := 35) rfl rfl (by omega) (fun (h11 : x ≠ 0) => ?_) (fun (h11 : ¬ (x ≠ 0)) => ?_)
      · show wW (zK sc) zM191 35 [(0, .inr (.inr (.inl (some (34, 0))))), (1, .inl x)] [] _ _ _
        refine ww_go 2 (pc' := 37) (L' := [(0, .inr (.inr (.inl (some (34, 0))))), (1, .inl x)]) (st' := [.inl 1, .inl x]) (m' := m6) (o := none) rfl trivial ?_
        refine ww_ic (t := 47) rfl rfl (by omega) (fun (h12 : x ≠ 1) => ?_) (fun (h12 : ¬ (x ≠ 1)) => ?_)
        · show wW (zK sc) zM191 47 [(0, .inr (.inr (.inl (some (34, 0))))), (1, .inl x)] [] _ _ _
          have b13 : 0 ≤ m6.1 34 0 16 ∧ m6.1 34 0 16 ≤ c := hGm6.1 34 _ rfl _ _
          refine ww_go 2 (pc' := 51) (L' := [(0, .inr (.inr (.inl (some (34, 0))))), (1, .inl x)]) (st' := [.inl (m6.1 34 0 16)]) (m' := m6) (o := some ((0 < 1))) rfl (show (0 < 1) from by omega) ?_
          exact ww_rI rfl rfl ⟨_, rfl, rfl, zB_mono hGm6 (by omega), hFm6, by omega⟩
        · show wW (zK sc) zM191 40 [(0, .inr (.inr (.inl (some (34, 0))))), (1, .inl x)] [] _ _ _
          have b14 : 0 ≤ m6.1 34 0 30 ∧ m6.1 34 0 30 ≤ 24 := hGm6.1 34 _ rfl _ _
          refine ww_go 3 (pc' := 51) (L' := [(0, .inr (.inr (.inl (some (34, 0))))), (1, .inl x)]) (st' := [.inl (m6.1 34 0 30)]) (m' := m6) (o := some ((0 < 1))) rfl (show (0 < 1) from by omega) ?_
          exact ww_rI rfl rfl ⟨_, rfl, rfl, zB_mono hGm6 (by omega), hFm6, by omega⟩
      · show wW (zK sc) zM191 28 [(0, .inr (.inr (.inl (some (34, 0))))), (1, .inl x)] [] _ _ _
        have b15 : 0 ≤ m6.1 34 0 35 ∧ m6.1 34 0 35 ≤ c := hGm6.1 34 _ rfl _ _
        refine ww_go 3 (pc' := 51) (L' := [(0, .inr (.inr (.inl (some (34, 0))))), (1, .inl x)]) (st' := [.inl (m6.1 34 0 35)]) (m' := m6) (o := some ((0 < 1))) rfl (show (0 < 1) from by omega) ?_
        exact ww_rI rfl rfl ⟨_, rfl, rfl, zB_mono hGm6 (by omega), hFm6, by omega⟩
    · show wW (zK sc) zM191 22 [(0, .inr (.inr (.inl (some (34, 0))))), (1, .inl x)] [] _ _ _
      refine ww_go 1 (pc' := 23) (L' := [(0, .inr (.inr (.inl (some (34, 0))))), (1, .inl x)]) (st' := [.inl 0]) (m' := m6) (o := none) rfl trivial ?_
      exact ww_rI rfl rfl ⟨_, rfl, rfl, zB_mono hGm6 (by omega), hFm6, by omega⟩
  · show wW (zK sc) zM191 10 [(0, .inr (.inr (.inl (some (34, 0))))), (1, .inl x)] [.inr (.inr (.inl (some (34, 0))))] _ _ _
    refine ww_go 3 (pc' := 16) (L' := [(0, .inr (.inr (.inl (some (34, 0))))), (1, .inl x)]) (st' := [.inl 1, .inl 1, .inr (.inr (.inl (some (34, 0))))]) (m' := m0) (o := none) rfl trivial ?_
    refine ww_call (vs := [.inr (.inr (.inl (some (34, 0)))), .inl 1, .inl 1]) (r := []) (p := 0 < 1) rfl rfl rfl rfl (show 0 < 1 from by omega) (zs196 (c := c) (by omega) 1 1 hG (by omega)) ?_
    rintro _ _ m18 ⟨r16, rfl, rfl, hGm18, hEm18, hr17⟩
    have hFm18 : zfr (fun k i j => (k = 34 ∧ j = 0)) m0 m18 := zfr_tr hF hEm18 (fun k i j z => z)
    have w19 : m18.1 34 0 35 = m0.1 34 0 35 := (hEm18 34 0 35 (show ¬ ((34 = 34 ∧ 35 = 0)) from by omega)).1
    have w20 : m18.1 34 0 30 = m0.1 34 0 30 := (hEm18 34 0 30 (show ¬ ((34 = 34 ∧ 30 = 0)) from by omega)).1
    have w21 : m18.1 34 0 16 = m0.1 34 0 16 := (hEm18 34 0 16 (show ¬ ((34 = 34 ∧ 16 = 0)) from by omega)).1
    show wW (zK sc) zM191 19 [(0, .inr (.inr (.inl (some (34, 0))))), (1, .inl x)] [.inl r16] _ _ _
    refine ww_if (t := 24) rfl rfl (by omega) (fun (h22 : r16 = 0) => ?_) (fun (h22 : ¬ (r16 = 0)) => ?_)
    · show wW (zK sc) zM191 24 [(0, .inr (.inr (.inl (some (34, 0))))), (1, .inl x)] [] _ _ _
      refine ww_go 1 (pc' := 25) (L' := [(0, .inr (.inr (.inl (some (34, 0))))), (1, .inl x)]) (st' := [.inl x]) (m' := m18) (o := none) rfl trivial ?_
      refine ww_if (t := 35) rfl rfl (by omega) (fun (h23 : x ≠ 0) => ?_) (fun (h23 : ¬ (x ≠ 0)) => ?_)
      · show wW (zK sc) zM191 35 [(0, .inr (.inr (.inl (some (34, 0))))), (1, .inl x)] [] _ _ _
        refine ww_go 2 (pc' := 37) (L' := [(0, .inr (.inr (.inl (some (34, 0))))), (1, .inl x)]) (st' := [.inl 1, .inl x]) (m' := m18) (o := none) rfl trivial ?_
        refine ww_ic (t := 47) rfl rfl (by omega) (fun (h24 : x ≠ 1) => ?_) (fun (h24 : ¬ (x ≠ 1)) => ?_)
        · show wW (zK sc) zM191 47 [(0, .inr (.inr (.inl (some (34, 0))))), (1, .inl x)] [] _ _ _
          have b25 : 0 ≤ m18.1 34 0 16 ∧ m18.1 34 0 16 ≤ c := hGm18.1 34 _ rfl _ _
          refine ww_go 2 (pc' := 51) (L' := [(0, .inr (.inr (.inl (some (34, 0))))), (1, .inl x)]) (st' := [.inl (m18.1 34 0 16)]) (m' := m18) (o := some ((0 < 1))) rfl (show (0 < 1) from by omega) ?_
          exact ww_rI rfl rfl ⟨_, rfl, rfl, zB_mono hGm18 (by omega), hFm18, by omega⟩
        · show wW (zK sc) zM191 40 [(0, .inr (.inr (.inl (some (34, 0))))), (1, .inl x)] [] _ _ _
          have b26 : 0 ≤ m18.1 34 0 30 ∧ m18.1 34 0 30 ≤ 24 := hGm18.1 34 _ rfl _ _
          refine ww_go 3 (pc' := 51) (L' := [(0, .inr (.inr (.inl (some (34, 0))))), (1, .inl x)]) (st' := [.inl (m18.1 34 0 30)]) (m' := m18) (o := some ((0 < 1))) rfl (show (0 < 1) from by omega) ?_
          exact ww_rI rfl rfl ⟨_, rfl, rfl, zB_mono hGm18 (by omega), hFm18, by omega⟩
      · show wW (zK sc) zM191 28 [(0, .inr (.inr (.inl (some (34, 0))))), (1, .inl x)] [] _ _ _
        have b27 : 0 ≤ m18.1 34 0 35 ∧ m18.1 34 0 35 ≤ c := hGm18.1 34 _ rfl _ _
        refine ww_go 3 (pc' := 51) (L' := [(0, .inr (.inr (.inl (some (34, 0))))), (1, .inl x)]) (st' := [.inl (m18.1 34 0 35)]) (m' := m18) (o := some ((0 < 1))) rfl (show (0 < 1) from by omega) ?_
        exact ww_rI rfl rfl ⟨_, rfl, rfl, zB_mono hGm18 (by omega), hFm18, by omega⟩
    · show wW (zK sc) zM191 22 [(0, .inr (.inr (.inl (some (34, 0))))), (1, .inl x)] [] _ _ _
      refine ww_go 1 (pc' := 23) (L' := [(0, .inr (.inr (.inl (some (34, 0))))), (1, .inl x)]) (st' := [.inl 0]) (m' := m18) (o := none) rfl trivial ?_
      exact ww_rI rfl rfl ⟨_, rfl, rfl, zB_mono hGm18 (by omega), hFm18, by omega⟩
