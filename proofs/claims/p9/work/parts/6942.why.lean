set_option maxRecDepth 8000 in
theorem yt103_l122 {sc : xSc} {n : Nat × Nat} {m0 : wm} {c : Int} (hc : 0 ≤ c ∧ c ≤ 1000000) (s : Nat) (hG : zB c m0) (h0 : 3 ≤ s ∧ s < 35) (hE : zCe m0) : ∀ (d : Nat), ∀ (y : Int) (b : Int) (w : Int) (u : Nat) (m : wm), 0 = d → zB c m → zfr (fun k i j => (k = 22 ∧ j = 3) ∨ (k = 23) ∨ (k = 24) ∨ (k = 25) ∨ (k = 26 ∧ i < 8) ∨ (k = 28 ∧ i < 8) ∨ (k = 29 ∧ i < 8) ∨ (k = 1 ∧ 101 ≤ i ∧ i < 157 ∧ j = 1) ∨ (k = 19 ∧ j = 5)) m0 m → (y = zBat m s 4 ∧ b = zBat m s 5 ∧ w = 2 * (256 * zBat m s 2 + zBat m s 3) + zBat m s 1) → (zBat m s 1 ≤ 1 ∧ zBat m s 4 ≤ 6 ∧ zBat m s 5 ≤ 1 ∧ 1 ≤ 256 * zBat m s 2 + zBat m s 3) → (zW3 m0 m s u) → (zCe m) →  wW (zK sc) zM103 122 [(0, .inr (.inr (.inl (some (19, 0))))), (1, .inr (.inr (.inl (some (1, s))))), (5, .inl y), (6, .inl b), (7, .inl w)] [] n m (wr (fun vv n1 m1 => ∃ r : Int, vv = some (.inl r) ∧ n = n1 ∧ zB c m1 ∧ zfr (fun k i j => (k = 22 ∧ j = 3) ∨ (k = 23) ∨ (k = 24) ∨ (k = 25) ∨ (k = 26 ∧ i < 8) ∨ (k = 28 ∧ i < 8) ∨ (k = 29 ∧ i < 8) ∨ (k = 1 ∧ 101 ≤ i ∧ i < 157 ∧ j = 1) ∨ (k = 19 ∧ j = 5)) m0 m1 ∧ (zWd m0 m1 s r))) := by
  intro d
  induction d using Nat.strongRecOn with
  | ind d ih =>
    intro y b w u m hd hGm hFm hi hf hW hC
    have zr0 := zBat_rg hG s 0
    have zr1 := zBat_rg hG s 1
    have zr2 := zBat_rg hG s 2
    have zr3 := zBat_rg hG s 3
    have zr4 := zBat_rg hG s 4
    have zr5 := zBat_rg hG s 5
    have zr6 := zBat_rg hG s 6
    have zr7 := zBat_rg hG s 7
    have zs0 := zBat_rg hGm s 0
    have zs1 := zBat_rg hGm s 1
    have zs2 := zBat_rg hGm s 2
    have zs3 := zBat_rg hGm s 3
    have zs4 := zBat_rg hGm s 4
    have zs5 := zBat_rg hGm s 5
    have zs6 := zBat_rg hGm s 6
    have zs7 := zBat_rg hGm s 7
    have zw0x : zBat m s 0 = zBat m0 s 0 := zBat_fr 0 hFm (show ¬ ((1 = 22 ∧ 1 = 3) ∨ (1 = 23) ∨ (1 = 24) ∨ (1 = 25) ∨ (1 = 26 ∧ s < 8) ∨ (1 = 28 ∧ s < 8) ∨ (1 = 29 ∧ s < 8) ∨ (1 = 1 ∧ 101 ≤ s ∧ s < 157 ∧ 1 = 1) ∨ (1 = 19 ∧ 1 = 5)) from by omega) (fun j => (show ¬ ((2 = 22 ∧ j = 3) ∨ (2 = 23) ∨ (2 = 24) ∨ (2 = 25) ∨ (2 = 26 ∧ s < 8) ∨ (2 = 28 ∧ s < 8) ∨ (2 = 29 ∧ s < 8) ∨ (2 = 1 ∧ 101 ≤ s ∧ s < 157 ∧ j = 1) ∨ (2 = 19 ∧ j = 5)) from by omega))
    have zw1x : zBat m s 1 = zBat m0 s 1 := zBat_fr 1 hFm (show ¬ ((1 = 22 ∧ 1 = 3) ∨ (1 = 23) ∨ (1 = 24) ∨ (1 = 25) ∨ (1 = 26 ∧ s < 8) ∨ (1 = 28 ∧ s < 8) ∨ (1 = 29 ∧ s < 8) ∨ (1 = 1 ∧ 101 ≤ s ∧ s < 157 ∧ 1 = 1) ∨ (1 = 19 ∧ 1 = 5)) from by omega) (fun j => (show ¬ ((2 = 22 ∧ j = 3) ∨ (2 = 23) ∨ (2 = 24) ∨ (2 = 25) ∨ (2 = 26 ∧ s < 8) ∨ (2 = 28 ∧ s < 8) ∨ (2 = 29 ∧ s < 8) ∨ (2 = 1 ∧ 101 ≤ s ∧ s < 157 ∧ j = 1) ∨ (2 = 19 ∧ j = 5)) from by omega))
    have zw2x : zBat m s 2 = zBat m0 s 2 := zBat_fr 2 hFm (show ¬ ((1 = 22 ∧ 1 = 3) ∨ (1 = 23) ∨ (1 = 24) ∨ (1 = 25) ∨ (1 = 26 ∧ s < 8) ∨ (1 = 28 ∧ s < 8) ∨ (1 = 29 ∧ s < 8) ∨ (1 = 1 ∧ 101 ≤ s ∧ s < 157 ∧ 1 = 1) ∨ (1 = 19 ∧ 1 = 5)) from by omega) (fun j => (show ¬ ((2 = 22 ∧ j = 3) ∨ (2 = 23) ∨ (2 = 24) ∨ (2 = 25) ∨ (2 = 26 ∧ s < 8) ∨ (2 = 28 ∧ s < 8) ∨ (2 = 29 ∧ s < 8) ∨ (2 = 1 ∧ 101 ≤ s ∧ s < 157 ∧ j = 1) ∨ (2 = 19 ∧ j = 5)) from by omega))
    have zw3x : zBat m s 3 = zBat m0 s 3 := zBat_fr 3 hFm (show ¬ ((1 = 22 ∧ 1 = 3) ∨ (1 = 23) ∨ (1 = 24) ∨ (1 = 25) ∨ (1 = 26 ∧ s < 8) ∨ (1 = 28 ∧ s < 8) ∨ (1 = 29 ∧ s < 8) ∨ (1 = 1 ∧ 101 ≤ s ∧ s < 157 ∧ 1 = 1) ∨ (1 = 19 ∧ 1 = 5)) from by omega) (fun j => (show ¬ ((2 = 22 ∧ j = 3) ∨ (2 = 23) ∨ (2 = 24) ∨ (2 = 25) ∨ (2 = 26 ∧ s < 8) ∨ (2 = 28 ∧ s < 8) ∨ (2 = 29 ∧ s < 8) ∨ (2 = 1 ∧ 101 ≤ s ∧ s < 157 ∧ j = 1) ∨ (2 = 19 ∧ j = 5)) from by omega))
    have zw4x : zBat m s 4 = zBat m0 s 4 := zBat_fr 4 hFm (show ¬ ((1 = 22 ∧ 1 = 3) ∨ (1 = 23) ∨ (1 = 24) ∨ (1 = 25) ∨ (1 = 26 ∧ s < 8) ∨ (1 = 28 ∧ s < 8) ∨ (1 = 29 ∧ s < 8) ∨ (1 = 1 ∧ 101 ≤ s ∧ s < 157 ∧ 1 = 1) ∨ (1 = 19 ∧ 1 = 5)) from by omega) (fun j => (show ¬ ((2 = 22 ∧ j = 3) ∨ (2 = 23) ∨ (2 = 24) ∨ (2 = 25) ∨ (2 = 26 ∧ s < 8) ∨ (2 = 28 ∧ s < 8) ∨ (2 = 29 ∧ s < 8) ∨ (2 = 1 ∧ 101 ≤ s ∧ s < 157 ∧ j = 1) ∨ (2 = 19 ∧ j = 5)) from by omega))
    have zw5x : zBat m s 5 = zBat m0 s 5 := zBat_fr 5 hFm (show ¬ ((1 = 22 ∧ 1 = 3) ∨ (1 = 23) ∨ (1 = 24) ∨ (1 = 25) ∨ (1 = 26 ∧ s < 8) ∨ (1 = 28 ∧ s < 8) ∨ (1 = 29 ∧ s < 8) ∨ (1 = 1 ∧ 101 ≤ s ∧ s < 157 ∧ 1 = 1) ∨ (1 = 19 ∧ 1 = 5)) from by omega) (fun j => (show ¬ ((2 = 22 ∧ j = 3) ∨ (2 = 23) ∨ (2 = 24) ∨ (2 = 25) ∨ (2 = 26 ∧ s < 8) ∨ (2 = 28 ∧ s < 8) ∨ (2 = 29 ∧ s < 8) ∨ (2 = 1 ∧ 101 ≤ s ∧ s < 157 ∧ j = 1) ∨ (2 = 19 ∧ j = 5)) from by omega))
    have zw6x : zBat m s 6 = zBat m0 s 6 := zBat_fr 6 hFm (show ¬ ((1 = 22 ∧ 1 = 3) ∨ (1 = 23) ∨ (1 = 24) ∨ (1 = 25) ∨ (1 = 26 ∧ s < 8) ∨ (1 = 28 ∧ s < 8) ∨ (1 = 29 ∧ s < 8) ∨ (1 = 1 ∧ 101 ≤ s ∧ s < 157 ∧ 1 = 1) ∨ (1 = 19 ∧ 1 = 5)) from by omega) (fun j => (show ¬ ((2 = 22 ∧ j = 3) ∨ (2 = 23) ∨ (2 = 24) ∨ (2 = 25) ∨ (2 = 26 ∧ s < 8) ∨ (2 = 28 ∧ s < 8) ∨ (2 = 29 ∧ s < 8) ∨ (2 = 1 ∧ 101 ≤ s ∧ s < 157 ∧ j = 1) ∨ (2 = 19 ∧ j = 5)) from by omega))
    have zw7x : zBat m s 7 = zBat m0 s 7 := zBat_fr 7 hFm (show ¬ ((1 = 22 ∧ 1 = 3) ∨ (1 = 23) ∨ (1 = 24) ∨ (1 = 25) ∨ (1 = 26 ∧ s < 8) ∨ (1 = 28 ∧ s < 8) ∨ (1 = 29 ∧ s < 8) ∨ (1 = 1 ∧ 101 ≤ s ∧ s < 157 ∧ 1 = 1) ∨ (1 = 19 ∧ 1 = 5)) from by omega) (fun j => (show ¬ ((2 = 22 ∧ j = 3) ∨ (2 = 23) ∨ (2 = 24) ∨ (2 = 25) ∨ (2 = 26 ∧ s < 8) ∨ (2 = 28 ∧ s < 8) ∨ (2 = 29 ∧ s < 8) ∨ (2 = 1 ∧ 101 ≤ s ∧ s < 157 ∧ j = 1) ∨ (2 = 19 ∧ j = 5)) from by omega))
    refine ww_go 5 (pc' := 132) (L' := [(0, .inr (.inr (.inl (some (19, 0))))), (1, .inr (.inr (.inl (some (1, s))))), (5, .inl y), (6, .inl b), (7, .inl w)]) (st' := [.inl b, .inl y, .inl w, .inr (.inr (.inl (some (22, 0))))]) (m' := m) (o := some ((0 < 1))) rfl (show (0 < 1) from by omega) ?_
    refine ww_call (vs := [.inl w, .inl y, .inl b]) (r := [.inr (.inr (.inl (some (22, 0))))]) (p := True) rfl rfl rfl rfl trivial (yt111 w y b (by omega)) ?_
    rintro _ _ _ ⟨r1, rfl, rfl, rfl, hr2⟩
    show wW (zK sc) zM103 135 [(0, .inr (.inr (.inl (some (19, 0))))), (1, .inr (.inr (.inl (some (1, s))))), (5, .inl y), (6, .inl b), (7, .inl w)] [.inl r1, .inr (.inr (.inl (some (22, 0))))] _ _ _
    refine ww_go 1 (pc' := 136) (L' := [(0, .inr (.inr (.inl (some (19, 0))))), (1, .inr (.inr (.inl (some (1, s))))), (5, .inl y), (6, .inl b), (7, .inl w)]) (st' := [.inr (.inr (.inl (some (1, s)))), .inl r1, .inr (.inr (.inl (some (22, 0))))]) (m' := m) (o := none) rfl trivial ?_
    refine ww_call (vs := [.inr (.inr (.inl (some (1, s))))]) (r := [.inl r1, .inr (.inr (.inl (some (22, 0))))]) (p := True) rfl rfl rfl rfl trivial (yt97 (c := c) (by omega) s hGm (by omega)) ?_
    rintro _ _ _ ⟨r3, rfl, rfl, rfl, hr4⟩
    have zpc9 := zpc_rg (zBat m s 7) (zBat m s 5)
    have zmr9 := zmk_rg (v := 256 * zBat m s 2 + zBat m s 3) (i := zBat m s 4) (b := zBat m s 5) (j := zBat m s 6) (n := zpc (zBat m s 7) (zBat m s 5)) (by omega) (by omega)
    have zmp9 : 2 ^ (zpc (zBat m s 7) (zBat m s 5)).toNat ≤ 2 ^ 8 := Nat.pow_le_pow_right (by decide) (by omega)
    show wW (zK sc) zM103 139 [(0, .inr (.inr (.inl (some (19, 0))))), (1, .inr (.inr (.inl (some (1, s))))), (5, .inl y), (6, .inl b), (7, .inl w)] [.inl r3, .inl r1, .inr (.inr (.inl (some (22, 0))))] _ _ _
    refine ww_call (vs := [.inr (.inr (.inl (some (22, 0)))), .inl r1, .inl r3]) (r := []) (p := 0 < 1) rfl rfl rfl rfl (show 0 < 1 from by omega) (yt117 (c := c) (by omega) r1 r3 hGm (by omega) hC) ?_
    rintro _ _ _ ⟨r5, rfl, rfl, rfl, hr6⟩
    show wW (zK sc) zM103 142 [(0, .inr (.inr (.inl (some (19, 0))))), (1, .inr (.inr (.inl (some (1, s))))), (5, .inl y), (6, .inl b), (7, .inl w)] [.inl r5] _ _ _
    refine ww_if (t := 147) rfl rfl (by omega) (fun (h7 : r5 = 0) => ?_) (fun (h7 : ¬ (r5 = 0)) => ?_)
    · show wW (zK sc) zM103 147 [(0, .inr (.inr (.inl (some (19, 0))))), (1, .inr (.inr (.inl (some (1, s))))), (5, .inl y), (6, .inl b), (7, .inl w)] [] _ _ _
      refine ww_go 2 (pc' := 151) (L' := [(0, .inr (.inr (.inl (some (19, 0))))), (1, .inr (.inr (.inl (some (1, s))))), (5, .inl y), (6, .inl b), (7, .inl w)]) (st' := [.inr (.inr (.inl (some (22, 0))))]) (m' := m) (o := some ((0 < 1))) rfl (show (0 < 1) from by omega) ?_
      refine ww_call (vs := [.inr (.inr (.inl (some (22, 0))))]) (r := []) (p := 0 < 1) rfl rfl rfl rfl (show 0 < 1 from by omega) (yt110 (c := c) (by omega) hGm) ?_
      rintro _ _ _ ⟨r8, rfl, rfl, rfl, hr9⟩
      show wW (zK sc) zM103 154 [(0, .inr (.inr (.inl (some (19, 0))))), (1, .inr (.inr (.inl (some (1, s))))), (5, .inl y), (6, .inl b), (7, .inl w)] [.inl r8] _ _ _
      refine ww_if (t := 169) rfl rfl (by omega) (fun (h10 : r8 = 0) => ?_) (fun (h10 : ¬ (r8 = 0)) => ?_)
      · show wW (zK sc) zM103 169 [(0, .inr (.inr (.inl (some (19, 0))))), (1, .inr (.inr (.inl (some (1, s))))), (5, .inl y), (6, .inl b), (7, .inl w)] [] _ _ _
        refine ww_go 1 (pc' := 170) (L' := [(0, .inr (.inr (.inl (some (19, 0))))), (1, .inr (.inr (.inl (some (1, s))))), (5, .inl y), (6, .inl b), (7, .inl w)]) (st' := [.inl 0]) (m' := m) (o := none) rfl trivial ?_
        exact ww_rI rfl rfl ⟨_, rfl, rfl, zB_mono hGm (by omega), hFm, Or.inr (Or.inr (Or.inr (Or.inr (Or.inr (Or.inr ⟨rfl, u, m, hW, (by have z9 := hr6; unfold zWt; rw [show zWk m s = r1 from by unfold zWk; omega, show zkM m s = r3 from hr4.2.symm]; exact z9.elim (fun z => absurd z.1 (by omega)) (fun z => z.2)), Or.inl ⟨by omega, rfl⟩⟩)))))⟩
      · show wW (zK sc) zM103 157 [(0, .inr (.inr (.inl (some (19, 0))))), (1, .inr (.inr (.inl (some (1, s))))), (5, .inl y), (6, .inl b), (7, .inl w)] [] _ _ _
        refine ww_go 1 (pc' := 158) (L' := [(0, .inr (.inr (.inl (some (19, 0))))), (1, .inr (.inr (.inl (some (1, s))))), (5, .inl y), (6, .inl b), (7, .inl w)]) (st' := [.inr (.inr (.inl (some (19, 0))))]) (m' := m) (o := none) rfl trivial ?_
        refine ww_call (vs := [.inr (.inr (.inl (some (19, 0))))]) (r := []) (p := 0 < 1) rfl rfl rfl rfl (show 0 < 1 from by omega) (yt96 (c := c) (by omega) hGm) ?_
        rintro _ _ m13 ⟨r11, rfl, rfl, hGm13, hEm13, hr12⟩
        have hFm13 : zfr (fun k i j => (k = 22 ∧ j = 3) ∨ (k = 23) ∨ (k = 24) ∨ (k = 25) ∨ (k = 26 ∧ i < 8) ∨ (k = 28 ∧ i < 8) ∨ (k = 29 ∧ i < 8) ∨ (k = 1 ∧ 101 ≤ i ∧ i < 157 ∧ j = 1) ∨ (k = 19 ∧ j = 5)) m0 m13 := zfr_tr hFm hEm13 (fun k i j z => Or.elim z (fun z => Or.inl z) (fun z => Or.elim z (fun z => Or.inr (Or.inl z)) (fun z => Or.elim z (fun z => Or.inr (Or.inr (Or.inl z))) (fun z => Or.inr (Or.inr (Or.inr (Or.inl z)))))))
        show wW (zK sc) zM103 161 [(0, .inr (.inr (.inl (some (19, 0))))), (1, .inr (.inr (.inl (some (1, s))))), (5, .inl y), (6, .inl b), (7, .inl w)] [.inl r11] _ _ _
        have zw14 : zBat m13 s 0 = zBat m0 s 0 := zBat_fr 0 hFm13 (show ¬ ((1 = 22 ∧ 1 = 3) ∨ (1 = 23) ∨ (1 = 24) ∨ (1 = 25) ∨ (1 = 26 ∧ s < 8) ∨ (1 = 28 ∧ s < 8) ∨ (1 = 29 ∧ s < 8) ∨ (1 = 1 ∧ 101 ≤ s ∧ s < 157 ∧ 1 = 1) ∨ (1 = 19 ∧ 1 = 5)) from by omega) (fun j => (show ¬ ((2 = 22 ∧ j = 3) ∨ (2 = 23) ∨ (2 = 24) ∨ (2 = 25) ∨ (2 = 26 ∧ s < 8) ∨ (2 = 28 ∧ s < 8) ∨ (2 = 29 ∧ s < 8) ∨ (2 = 1 ∧ 101 ≤ s ∧ s < 157 ∧ j = 1) ∨ (2 = 19 ∧ j = 5)) from by omega))
        have zw15 : zBat m13 s 1 = zBat m0 s 1 := zBat_fr 1 hFm13 (show ¬ ((1 = 22 ∧ 1 = 3) ∨ (1 = 23) ∨ (1 = 24) ∨ (1 = 25) ∨ (1 = 26 ∧ s < 8) ∨ (1 = 28 ∧ s < 8) ∨ (1 = 29 ∧ s < 8) ∨ (1 = 1 ∧ 101 ≤ s ∧ s < 157 ∧ 1 = 1) ∨ (1 = 19 ∧ 1 = 5)) from by omega) (fun j => (show ¬ ((2 = 22 ∧ j = 3) ∨ (2 = 23) ∨ (2 = 24) ∨ (2 = 25) ∨ (2 = 26 ∧ s < 8) ∨ (2 = 28 ∧ s < 8) ∨ (2 = 29 ∧ s < 8) ∨ (2 = 1 ∧ 101 ≤ s ∧ s < 157 ∧ j = 1) ∨ (2 = 19 ∧ j = 5)) from by omega))
        have zw16 : zBat m13 s 2 = zBat m0 s 2 := zBat_fr 2 hFm13 (show ¬ ((1 = 22 ∧ 1 = 3) ∨ (1 = 23) ∨ (1 = 24) ∨ (1 = 25) ∨ (1 = 26 ∧ s < 8) ∨ (1 = 28 ∧ s < 8) ∨ (1 = 29 ∧ s < 8) ∨ (1 = 1 ∧ 101 ≤ s ∧ s < 157 ∧ 1 = 1) ∨ (1 = 19 ∧ 1 = 5)) from by omega) (fun j => (show ¬ ((2 = 22 ∧ j = 3) ∨ (2 = 23) ∨ (2 = 24) ∨ (2 = 25) ∨ (2 = 26 ∧ s < 8) ∨ (2 = 28 ∧ s < 8) ∨ (2 = 29 ∧ s < 8) ∨ (2 = 1 ∧ 101 ≤ s ∧ s < 157 ∧ j = 1) ∨ (2 = 19 ∧ j = 5)) from by omega))
        have zw17 : zBat m13 s 3 = zBat m0 s 3 := zBat_fr 3 hFm13 (show ¬ ((1 = 22 ∧ 1 = 3) ∨ (1 = 23) ∨ (1 = 24) ∨ (1 = 25) ∨ (1 = 26 ∧ s < 8) ∨ (1 = 28 ∧ s < 8) ∨ (1 = 29 ∧ s < 8) ∨ (1 = 1 ∧ 101 ≤ s ∧ s < 157 ∧ 1 = 1) ∨ (1 = 19 ∧ 1 = 5)) from by omega) (fun j => (show ¬ ((2 = 22 ∧ j = 3) ∨ (2 = 23) ∨ (2 = 24) ∨ (2 = 25) ∨ (2 = 26 ∧ s < 8) ∨ (2 = 28 ∧ s < 8) ∨ (2 = 29 ∧ s < 8) ∨ (2 = 1 ∧ 101 ≤ s ∧ s < 157 ∧ j = 1) ∨ (2 = 19 ∧ j = 5)) from by omega))
        have zw18 : zBat m13 s 4 = zBat m0 s 4 := zBat_fr 4 hFm13 (show ¬ ((1 = 22 ∧ 1 = 3) ∨ (1 = 23) ∨ (1 = 24) ∨ (1 = 25) ∨ (1 = 26 ∧ s < 8) ∨ (1 = 28 ∧ s < 8) ∨ (1 = 29 ∧ s < 8) ∨ (1 = 1 ∧ 101 ≤ s ∧ s < 157 ∧ 1 = 1) ∨ (1 = 19 ∧ 1 = 5)) from by omega) (fun j => (show ¬ ((2 = 22 ∧ j = 3) ∨ (2 = 23) ∨ (2 = 24) ∨ (2 = 25) ∨ (2 = 26 ∧ s < 8) ∨ (2 = 28 ∧ s < 8) ∨ (2 = 29 ∧ s < 8) ∨ (2 = 1 ∧ 101 ≤ s ∧ s < 157 ∧ j = 1) ∨ (2 = 19 ∧ j = 5)) from by omega))
        have zw19 : zBat m13 s 5 = zBat m0 s 5 := zBat_fr 5 hFm13 (show ¬ ((1 = 22 ∧ 1 = 3) ∨ (1 = 23) ∨ (1 = 24) ∨ (1 = 25) ∨ (1 = 26 ∧ s < 8) ∨ (1 = 28 ∧ s < 8) ∨ (1 = 29 ∧ s < 8) ∨ (1 = 1 ∧ 101 ≤ s ∧ s < 157 ∧ 1 = 1) ∨ (1 = 19 ∧ 1 = 5)) from by omega) (fun j => (show ¬ ((2 = 22 ∧ j = 3) ∨ (2 = 23) ∨ (2 = 24) ∨ (2 = 25) ∨ (2 = 26 ∧ s < 8) ∨ (2 = 28 ∧ s < 8) ∨ (2 = 29 ∧ s < 8) ∨ (2 = 1 ∧ 101 ≤ s ∧ s < 157 ∧ j = 1) ∨ (2 = 19 ∧ j = 5)) from by omega))
        have zw20 : zBat m13 s 6 = zBat m0 s 6 := zBat_fr 6 hFm13 (show ¬ ((1 = 22 ∧ 1 = 3) ∨ (1 = 23) ∨ (1 = 24) ∨ (1 = 25) ∨ (1 = 26 ∧ s < 8) ∨ (1 = 28 ∧ s < 8) ∨ (1 = 29 ∧ s < 8) ∨ (1 = 1 ∧ 101 ≤ s ∧ s < 157 ∧ 1 = 1) ∨ (1 = 19 ∧ 1 = 5)) from by omega) (fun j => (show ¬ ((2 = 22 ∧ j = 3) ∨ (2 = 23) ∨ (2 = 24) ∨ (2 = 25) ∨ (2 = 26 ∧ s < 8) ∨ (2 = 28 ∧ s < 8) ∨ (2 = 29 ∧ s < 8) ∨ (2 = 1 ∧ 101 ≤ s ∧ s < 157 ∧ j = 1) ∨ (2 = 19 ∧ j = 5)) from by omega))
        have zw21 : zBat m13 s 7 = zBat m0 s 7 := zBat_fr 7 hFm13 (show ¬ ((1 = 22 ∧ 1 = 3) ∨ (1 = 23) ∨ (1 = 24) ∨ (1 = 25) ∨ (1 = 26 ∧ s < 8) ∨ (1 = 28 ∧ s < 8) ∨ (1 = 29 ∧ s < 8) ∨ (1 = 1 ∧ 101 ≤ s ∧ s < 157 ∧ 1 = 1) ∨ (1 = 19 ∧ 1 = 5)) from by omega) (fun j => (show ¬ ((2 = 22 ∧ j = 3) ∨ (2 = 23) ∨ (2 = 24) ∨ (2 = 25) ∨ (2 = 26 ∧ s < 8) ∨ (2 = 28 ∧ s < 8) ∨ (2 = 29 ∧ s < 8) ∨ (2 = 1 ∧ 101 ≤ s ∧ s < 157 ∧ j = 1) ∨ (2 = 19 ∧ j = 5)) from by omega))
        refine ww_if (t := 169) rfl rfl (by omega) (fun (h22 : r11 ≠ 0) => ?_) (fun (h22 : ¬ (r11 ≠ 0)) => ?_)
        · show wW (zK sc) zM103 169 [(0, .inr (.inr (.inl (some (19, 0))))), (1, .inr (.inr (.inl (some (1, s))))), (5, .inl y), (6, .inl b), (7, .inl w)] [] _ _ _
          refine ww_go 1 (pc' := 170) (L' := [(0, .inr (.inr (.inl (some (19, 0))))), (1, .inr (.inr (.inl (some (1, s))))), (5, .inl y), (6, .inl b), (7, .inl w)]) (st' := [.inl 0]) (m' := m13) (o := none) rfl trivial ?_
          exact ww_rI rfl rfl ⟨_, rfl, rfl, zB_mono hGm13 (by omega), hFm13, Or.inr (Or.inr (Or.inr (Or.inr (Or.inr (Or.inr ⟨rfl, u, m, hW, (by have z9 := hr6; unfold zWt; rw [show zWk m s = r1 from by unfold zWk; omega, show zkM m s = r3 from hr4.2.symm]; exact z9.elim (fun z => absurd z.1 (by omega)) (fun z => z.2)), Or.inr ⟨hr9.elim (fun z => z.2) (fun z => absurd z.1 (by assumption)), hr12.elim (fun z => absurd z.1 (by omega)) (fun z => z.2.elim (fun o z => ⟨o, z.1, z.2.1, z.2.2, zfr_tr zfr_rf hEm13 (fun k i j z => z)⟩))⟩⟩)))))⟩
        · show wW (zK sc) zM103 164 [(0, .inr (.inr (.inl (some (19, 0))))), (1, .inr (.inr (.inl (some (1, s))))), (5, .inl y), (6, .inl b), (7, .inl w)] [] _ _ _
          refine ww_go 2 (pc' := 170) (L' := [(0, .inr (.inr (.inl (some (19, 0))))), (1, .inr (.inr (.inl (some (1, s))))), (5, .inl y), (6, .inl b), (7, .inl w)]) (st' := [.inl 6]) (m' := m13) (o := none) rfl trivial ?_
          have zem9 : m = m13 := hr12.elim (fun z => z.2.1) (fun z => absurd z.1 (by omega))
          exact ww_rI rfl rfl ⟨_, rfl, rfl, zB_mono hGm13 (by omega), hFm13, Or.inr (Or.inr (Or.inr (Or.inr (Or.inr (Or.inl ⟨rfl, u, zem9 ▸ hW, zem9 ▸ (by have z9 := hr6; unfold zWt; rw [show zWk m s = r1 from by unfold zWk; omega, show zkM m s = r3 from hr4.2.symm]; exact z9.elim (fun z => absurd z.1 (by omega)) (fun z => z.2)), by rw [← zem9]; omega, zem9 ▸ hr12.elim (fun z => z.2.2) (fun z => absurd z.1 (by omega))⟩)))))⟩
    · show wW (zK sc) zM103 145 [(0, .inr (.inr (.inl (some (19, 0))))), (1, .inr (.inr (.inl (some (1, s))))), (5, .inl y), (6, .inl b), (7, .inl w)] [] _ _ _
      refine ww_go 1 (pc' := 146) (L' := [(0, .inr (.inr (.inl (some (19, 0))))), (1, .inr (.inr (.inl (some (1, s))))), (5, .inl y), (6, .inl b), (7, .inl w)]) (st' := [.inl 5]) (m' := m) (o := none) rfl trivial ?_
      exact ww_rI rfl rfl ⟨_, rfl, rfl, zB_mono hGm (by omega), hFm, Or.inr (Or.inr (Or.inr (Or.inr (Or.inl ⟨rfl, u, hW, (by have z9 := hr6; unfold zWt; rw [show zWk m s = r1 from by unfold zWk; omega, show zkM m s = r3 from hr4.2.symm]; exact z9.elim (fun z => z.2) (fun z => absurd z.1 (by omega)))⟩))))⟩
set_option maxRecDepth 8000 in
theorem yt103_l75 {sc : xSc} {n : Nat × Nat} {m0 : wm} {c : Int} (hc : 0 ≤ c ∧ c ≤ 1000000) (s : Nat) (hG : zB c m0) (h0 : 3 ≤ s ∧ s < 35) (hE : zCe m0) : ∀ (d : Nat), ∀ (x : Int) (y : Int) (u : Nat) (m : wm), 0 = d → zB c m → zfr (fun k i j => (k = 22 ∧ j = 3) ∨ (k = 23) ∨ (k = 24) ∨ (k = 25) ∨ (k = 26 ∧ i < 8) ∨ (k = 28 ∧ i < 8) ∨ (k = 29 ∧ i < 8) ∨ (k = 1 ∧ 101 ≤ i ∧ i < 157 ∧ j = 1) ∨ (k = 19 ∧ j = 5)) m0 m → (u < 8 ∧ x = zBat m s 1 ∧ y = 256 * zBat m s 2 + zBat m s 3) → (zBat m s 1 ≤ 1 ∧ zBat m s 4 ≤ 6 ∧ zBat m s 5 ≤ 1 ∧ 1 ≤ 256 * zBat m s 2 + zBat m s 3) → (zW2 m0 m s u) → (zCe m) →  wW (zK sc) zM103 75 [(0, .inr (.inr (.inl (some (19, 0))))), (1, .inr (.inr (.inl (some (1, s))))), (2, .inl x), (3, .inl y), (4, .inr (.inr (.inl (some (26, u)))))] [] n m (wr (fun vv n1 m1 => ∃ r : Int, vv = some (.inl r) ∧ n = n1 ∧ zB c m1 ∧ zfr (fun k i j => (k = 22 ∧ j = 3) ∨ (k = 23) ∨ (k = 24) ∨ (k = 25) ∨ (k = 26 ∧ i < 8) ∨ (k = 28 ∧ i < 8) ∨ (k = 29 ∧ i < 8) ∨ (k = 1 ∧ 101 ≤ i ∧ i < 157 ∧ j = 1) ∨ (k = 19 ∧ j = 5)) m0 m1 ∧ (zWd m0 m1 s r))) := by
  intro d
  induction d using Nat.strongRecOn with
  | ind d ih =>
    intro x y u m hd hGm hFm hi hf hW hC
    have zr0 := zBat_rg hG s 0
    have zr1 := zBat_rg hG s 1
    have zr2 := zBat_rg hG s 2
    have zr3 := zBat_rg hG s 3
    have zr4 := zBat_rg hG s 4
    have zr5 := zBat_rg hG s 5
    have zr6 := zBat_rg hG s 6
    have zr7 := zBat_rg hG s 7
    have zs0 := zBat_rg hGm s 0
    have zs1 := zBat_rg hGm s 1
    have zs2 := zBat_rg hGm s 2
    have zs3 := zBat_rg hGm s 3
    have zs4 := zBat_rg hGm s 4
    have zs5 := zBat_rg hGm s 5
    have zs6 := zBat_rg hGm s 6
    have zs7 := zBat_rg hGm s 7
    have zw0x : zBat m s 0 = zBat m0 s 0 := zBat_fr 0 hFm (show ¬ ((1 = 22 ∧ 1 = 3) ∨ (1 = 23) ∨ (1 = 24) ∨ (1 = 25) ∨ (1 = 26 ∧ s < 8) ∨ (1 = 28 ∧ s < 8) ∨ (1 = 29 ∧ s < 8) ∨ (1 = 1 ∧ 101 ≤ s ∧ s < 157 ∧ 1 = 1) ∨ (1 = 19 ∧ 1 = 5)) from by omega) (fun j => (show ¬ ((2 = 22 ∧ j = 3) ∨ (2 = 23) ∨ (2 = 24) ∨ (2 = 25) ∨ (2 = 26 ∧ s < 8) ∨ (2 = 28 ∧ s < 8) ∨ (2 = 29 ∧ s < 8) ∨ (2 = 1 ∧ 101 ≤ s ∧ s < 157 ∧ j = 1) ∨ (2 = 19 ∧ j = 5)) from by omega))
    have zw1x : zBat m s 1 = zBat m0 s 1 := zBat_fr 1 hFm (show ¬ ((1 = 22 ∧ 1 = 3) ∨ (1 = 23) ∨ (1 = 24) ∨ (1 = 25) ∨ (1 = 26 ∧ s < 8) ∨ (1 = 28 ∧ s < 8) ∨ (1 = 29 ∧ s < 8) ∨ (1 = 1 ∧ 101 ≤ s ∧ s < 157 ∧ 1 = 1) ∨ (1 = 19 ∧ 1 = 5)) from by omega) (fun j => (show ¬ ((2 = 22 ∧ j = 3) ∨ (2 = 23) ∨ (2 = 24) ∨ (2 = 25) ∨ (2 = 26 ∧ s < 8) ∨ (2 = 28 ∧ s < 8) ∨ (2 = 29 ∧ s < 8) ∨ (2 = 1 ∧ 101 ≤ s ∧ s < 157 ∧ j = 1) ∨ (2 = 19 ∧ j = 5)) from by omega))
    have zw2x : zBat m s 2 = zBat m0 s 2 := zBat_fr 2 hFm (show ¬ ((1 = 22 ∧ 1 = 3) ∨ (1 = 23) ∨ (1 = 24) ∨ (1 = 25) ∨ (1 = 26 ∧ s < 8) ∨ (1 = 28 ∧ s < 8) ∨ (1 = 29 ∧ s < 8) ∨ (1 = 1 ∧ 101 ≤ s ∧ s < 157 ∧ 1 = 1) ∨ (1 = 19 ∧ 1 = 5)) from by omega) (fun j => (show ¬ ((2 = 22 ∧ j = 3) ∨ (2 = 23) ∨ (2 = 24) ∨ (2 = 25) ∨ (2 = 26 ∧ s < 8) ∨ (2 = 28 ∧ s < 8) ∨ (2 = 29 ∧ s < 8) ∨ (2 = 1 ∧ 101 ≤ s ∧ s < 157 ∧ j = 1) ∨ (2 = 19 ∧ j = 5)) from by omega))
    have zw3x : zBat m s 3 = zBat m0 s 3 := zBat_fr 3 hFm (show ¬ ((1 = 22 ∧ 1 = 3) ∨ (1 = 23) ∨ (1 = 24) ∨ (1 = 25) ∨ (1 = 26 ∧ s < 8) ∨ (1 = 28 ∧ s < 8) ∨ (1 = 29 ∧ s < 8) ∨ (1 = 1 ∧ 101 ≤ s ∧ s < 157 ∧ 1 = 1) ∨ (1 = 19 ∧ 1 = 5)) from by omega) (fun j => (show ¬ ((2 = 22 ∧ j = 3) ∨ (2 = 23) ∨ (2 = 24) ∨ (2 = 25) ∨ (2 = 26 ∧ s < 8) ∨ (2 = 28 ∧ s < 8) ∨ (2 = 29 ∧ s < 8) ∨ (2 = 1 ∧ 101 ≤ s ∧ s < 157 ∧ j = 1) ∨ (2 = 19 ∧ j = 5)) from by omega))
    have zw4x : zBat m s 4 = zBat m0 s 4 := zBat_fr 4 hFm (show ¬ ((1 = 22 ∧ 1 = 3) ∨ (1 = 23) ∨ (1 = 24) ∨ (1 = 25) ∨ (1 = 26 ∧ s < 8) ∨ (1 = 28 ∧ s < 8) ∨ (1 = 29 ∧ s < 8) ∨ (1 = 1 ∧ 101 ≤ s ∧ s < 157 ∧ 1 = 1) ∨ (1 = 19 ∧ 1 = 5)) from by omega) (fun j => (show ¬ ((2 = 22 ∧ j = 3) ∨ (2 = 23) ∨ (2 = 24) ∨ (2 = 25) ∨ (2 = 26 ∧ s < 8) ∨ (2 = 28 ∧ s < 8) ∨ (2 = 29 ∧ s < 8) ∨ (2 = 1 ∧ 101 ≤ s ∧ s < 157 ∧ j = 1) ∨ (2 = 19 ∧ j = 5)) from by omega))
    have zw5x : zBat m s 5 = zBat m0 s 5 := zBat_fr 5 hFm (show ¬ ((1 = 22 ∧ 1 = 3) ∨ (1 = 23) ∨ (1 = 24) ∨ (1 = 25) ∨ (1 = 26 ∧ s < 8) ∨ (1 = 28 ∧ s < 8) ∨ (1 = 29 ∧ s < 8) ∨ (1 = 1 ∧ 101 ≤ s ∧ s < 157 ∧ 1 = 1) ∨ (1 = 19 ∧ 1 = 5)) from by omega) (fun j => (show ¬ ((2 = 22 ∧ j = 3) ∨ (2 = 23) ∨ (2 = 24) ∨ (2 = 25) ∨ (2 = 26 ∧ s < 8) ∨ (2 = 28 ∧ s < 8) ∨ (2 = 29 ∧ s < 8) ∨ (2 = 1 ∧ 101 ≤ s ∧ s < 157 ∧ j = 1) ∨ (2 = 19 ∧ j = 5)) from by omega))
    have zw6x : zBat m s 6 = zBat m0 s 6 := zBat_fr 6 hFm (show ¬ ((1 = 22 ∧ 1 = 3) ∨ (1 = 23) ∨ (1 = 24) ∨ (1 = 25) ∨ (1 = 26 ∧ s < 8) ∨ (1 = 28 ∧ s < 8) ∨ (1 = 29 ∧ s < 8) ∨ (1 = 1 ∧ 101 ≤ s ∧ s < 157 ∧ 1 = 1) ∨ (1 = 19 ∧ 1 = 5)) from by omega) (fun j => (show ¬ ((2 = 22 ∧ j = 3) ∨ (2 = 23) ∨ (2 = 24) ∨ (2 = 25) ∨ (2 = 26 ∧ s < 8) ∨ (2 = 28 ∧ s < 8) ∨ (2 = 29 ∧ s < 8) ∨ (2 = 1 ∧ 101 ≤ s ∧ s < 157 ∧ j = 1) ∨ (2 = 19 ∧ j = 5)) from by omega))
    have zw7x : zBat m s 7 = zBat m0 s 7 := zBat_fr 7 hFm (show ¬ ((1 = 22 ∧ 1 = 3) ∨ (1 = 23) ∨ (1 = 24) ∨ (1 = 25) ∨ (1 = 26 ∧ s < 8) ∨ (1 = 28 ∧ s < 8) ∨ (1 = 29 ∧ s < 8) ∨ (1 = 1 ∧ 101 ≤ s ∧ s < 157 ∧ 1 = 1) ∨ (1 = 19 ∧ 1 = 5)) from by omega) (fun j => (show ¬ ((2 = 22 ∧ j = 3) ∨ (2 = 23) ∨ (2 = 24) ∨ (2 = 25) ∨ (2 = 26 ∧ s < 8) ∨ (2 = 28 ∧ s < 8) ∨ (2 = 29 ∧ s < 8) ∨ (2 = 1 ∧ 101 ≤ s ∧ s < 157 ∧ j = 1) ∨ (2 = 19 ∧ j = 5)) from by omega))
    refine ww_go 2 (pc' := 77) (L' := [(0, .inr (.inr (.inl (some (19, 0))))), (1, .inr (.inr (.inl (some (1, s))))), (2, .inl x), (3, .inl y), (4, .inr (.inr (.inl (some (26, u)))))]) (st' := [.inl 4, .inr (.inr (.inl (some (1, s))))]) (m' := m) (o := none) rfl trivial ?_
    refine ww_call (vs := [.inr (.inr (.inl (some (1, s)))), .inl 4]) (r := []) (p := s < 171) rfl rfl rfl rfl (show s < 171 from by omega) (zs28 (c := c) (by omega) 4 s hGm (by omega)) ?_
    rintro _ _ _ ⟨r1, rfl, rfl, rfl, hr2⟩
    show wW (zK sc) zM103 80 [(0, .inr (.inr (.inl (some (19, 0))))), (1, .inr (.inr (.inl (some (1, s))))), (2, .inl x), (3, .inl y), (4, .inr (.inr (.inl (some (26, u)))))] [.inl r1] _ _ _
    refine ww_go 3 (pc' := 84) (L' := [(5, .inl r1), (0, .inr (.inr (.inl (some (19, 0))))), (1, .inr (.inr (.inl (some (1, s))))), (2, .inl x), (3, .inl y), (4, .inr (.inr (.inl (some (26, u)))))]) (st' := [.inl 5, .inr (.inr (.inl (some (1, s))))]) (m' := m) (o := none) rfl trivial ?_
    refine ww_call (vs := [.inr (.inr (.inl (some (1, s)))), .inl 5]) (r := []) (p := s < 171) rfl rfl rfl rfl (show s < 171 from by omega) (zs28 (c := c) (by omega) 5 s hGm (by omega)) ?_
    rintro _ _ _ ⟨r3, rfl, rfl, rfl, hr4⟩
    show wW (zK sc) zM103 87 [(5, .inl r1), (0, .inr (.inr (.inl (some (19, 0))))), (1, .inr (.inr (.inl (some (1, s))))), (2, .inl x), (3, .inl y), (4, .inr (.inr (.inl (some (26, u)))))] [.inl r3] _ _ _
    refine ww_go 3 (pc' := 91) (L' := [(6, .inl r3), (5, .inl r1), (0, .inr (.inr (.inl (some (19, 0))))), (1, .inr (.inr (.inl (some (1, s))))), (2, .inl x), (3, .inl y), (4, .inr (.inr (.inl (some (26, u)))))]) (st' := [.inl y, .inl x]) (m' := m) (o := none) rfl trivial ?_
    refine ww_call (vs := [.inl x, .inl y]) (r := []) (p := True) rfl rfl rfl rfl trivial (yt113 x y (by omega)) ?_
    rintro _ _ _ ⟨r5, rfl, rfl, rfl, hr6⟩
    show wW (zK sc) zM103 94 [(6, .inl r3), (5, .inl r1), (0, .inr (.inr (.inl (some (19, 0))))), (1, .inr (.inr (.inl (some (1, s))))), (2, .inl x), (3, .inl y), (4, .inr (.inr (.inl (some (26, u)))))] [.inl r5] _ _ _
    refine ww_go 5 (pc' := 102) (L' := [(7, .inl r5), (6, .inl r3), (5, .inl r1), (0, .inr (.inr (.inl (some (19, 0))))), (1, .inr (.inr (.inl (some (1, s))))), (2, .inl x), (3, .inl y), (4, .inr (.inr (.inl (some (26, u)))))]) (st' := [.inr (.inr (.inl (some (1, s)))), .inl r5, .inr (.inr (.inl (some (26, u)))), .inr (.inr (.inl (some (19, 0))))]) (m' := m) (o := none) rfl trivial ?_
    refine ww_call (vs := [.inr (.inr (.inl (some (19, 0)))), .inr (.inr (.inl (some (26, u)))), .inl r5, .inr (.inr (.inl (some (1, s))))]) (r := []) (p := 0 < 1) rfl rfl rfl rfl (show 0 < 1 from by omega) (yt82 (c := c) (by omega) r5 u s hGm (by omega)) ?_
    rintro _ _ _ ⟨r7, rfl, rfl, rfl, hr8⟩
    show wW (zK sc) zM103 105 [(7, .inl r5), (6, .inl r3), (5, .inl r1), (0, .inr (.inr (.inl (some (19, 0))))), (1, .inr (.inr (.inl (some (1, s))))), (2, .inl x), (3, .inl y), (4, .inr (.inr (.inl (some (26, u)))))] [.inl r7] _ _ _
    refine ww_if (t := 120) rfl rfl (by omega) (fun (h9 : r7 ≠ 0) => ?_) (fun (h9 : ¬ (r7 ≠ 0)) => ?_)
    · show wW (zK sc) zM103 120 [(7, .inl r5), (6, .inl r3), (5, .inl r1), (0, .inr (.inr (.inl (some (19, 0))))), (1, .inr (.inr (.inl (some (1, s))))), (2, .inl x), (3, .inl y), (4, .inr (.inr (.inl (some (26, u)))))] [] _ _ _
      refine ww_go 1 (pc' := 121) (L' := [(7, .inl r5), (6, .inl r3), (5, .inl r1), (0, .inr (.inr (.inl (some (19, 0))))), (1, .inr (.inr (.inl (some (1, s))))), (2, .inl x), (3, .inl y), (4, .inr (.inr (.inl (some (26, u)))))]) (st' := [.inl 4]) (m' := m) (o := none) rfl trivial ?_
      exact ww_rI rfl rfl ⟨_, rfl, rfl, zB_mono hGm (by omega), hFm, Or.inr (Or.inr (Or.inr (Or.inl ⟨rfl, u, hW, Or.inl (by rw [show 2 * (256 * zBat m s 2 + zBat m s 3) + zBat m s 1 = r5 from by omega]; exact hr8.elim (fun z => z.2) (fun z => absurd z.1 (by omega)))⟩)))⟩
    · show wW (zK sc) zM103 108 [(7, .inl r5), (6, .inl r3), (5, .inl r1), (0, .inr (.inr (.inl (some (19, 0))))), (1, .inr (.inr (.inl (some (1, s))))), (2, .inl x), (3, .inl y), (4, .inr (.inr (.inl (some (26, u)))))] [] _ _ _
      refine ww_go 3 (pc' := 114) (L' := [(7, .inl r5), (6, .inl r3), (5, .inl r1), (0, .inr (.inr (.inl (some (19, 0))))), (1, .inr (.inr (.inl (some (1, s))))), (2, .inl x), (3, .inl y), (4, .inr (.inr (.inl (some (26, u)))))]) (st' := [.inl r3, .inl r1, .inr (.inr (.inl (some (26, u))))]) (m' := m) (o := none) rfl trivial ?_
      refine ww_call (vs := [.inr (.inr (.inl (some (26, u)))), .inl r1, .inl r3]) (r := []) (p := u < 10) rfl rfl rfl rfl (show u < 10 from by omega) (yt150 (c := c) (by omega) r1 r3 u hGm (by omega)) ?_
      rintro _ _ _ ⟨r10, rfl, rfl, rfl, hr11⟩
      show wW (zK sc) zM103 117 [(7, .inl r5), (6, .inl r3), (5, .inl r1), (0, .inr (.inr (.inl (some (19, 0))))), (1, .inr (.inr (.inl (some (1, s))))), (2, .inl x), (3, .inl y), (4, .inr (.inr (.inl (some (26, u)))))] [.inl r10] _ _ _
      refine ww_if (t := 122) rfl rfl (by omega) (fun (h12 : r10 = 0) => ?_) (fun (h12 : ¬ (r10 = 0)) => ?_)
      · show wW (zK sc) zM103 122 [(7, .inl r5), (6, .inl r3), (5, .inl r1), (0, .inr (.inr (.inl (some (19, 0))))), (1, .inr (.inr (.inl (some (1, s))))), (2, .inl x), (3, .inl y), (4, .inr (.inr (.inl (some (26, u)))))] [] _ _ _
        refine ww_sub (L := [(0, .inr (.inr (.inl (some (19, 0))))), (1, .inr (.inr (.inl (some (1, s))))), (5, .inl r1), (6, .inl r3), (7, .inl r5)]) ⟨rfl, rfl, rfl, rfl, rfl, trivial⟩ rfl rfl ?_
        exact (yt103_l122 hc s hG h0 hE _) r1 r3 r5 u m rfl (zB_mono hGm (by omega)) hFm (by omega) (by exact hf) (by exact ⟨hW, fun z => z.elim (fun z => (by rw [show 2 * (256 * zBat m s 2 + zBat m s 3) + zBat m s 1 = r5 from by omega] at z; exact hr8.elim (fun z9 => absurd z9.1 (by omega)) (fun z9 => z9.2 z))) (fun z => (by rw [show 2 * (zBat m s 4).toNat + (zBat m s 5).toNat = 2 * (r1).toNat + (r3).toNat from by omega] at z; omega))⟩) (by exact hC)
      · show wW (zK sc) zM103 120 [(7, .inl r5), (6, .inl r3), (5, .inl r1), (0, .inr (.inr (.inl (some (19, 0))))), (1, .inr (.inr (.inl (some (1, s))))), (2, .inl x), (3, .inl y), (4, .inr (.inr (.inl (some (26, u)))))] [] _ _ _
        refine ww_go 1 (pc' := 121) (L' := [(7, .inl r5), (6, .inl r3), (5, .inl r1), (0, .inr (.inr (.inl (some (19, 0))))), (1, .inr (.inr (.inl (some (1, s))))), (2, .inl x), (3, .inl y), (4, .inr (.inr (.inl (some (26, u)))))]) (st' := [.inl 4]) (m' := m) (o := none) rfl trivial ?_
        exact ww_rI rfl rfl ⟨_, rfl, rfl, zB_mono hGm (by omega), hFm, Or.inr (Or.inr (Or.inr (Or.inl ⟨rfl, u, hW, Or.inr (by rw [show 2 * (zBat m s 4).toNat + (zBat m s 5).toNat = 2 * (r1).toNat + (r3).toNat from by omega]; omega)⟩)))⟩
set_option maxRecDepth 8000 in
theorem yt103_l43 {sc : xSc} {n : Nat × Nat} {m0 : wm} {c : Int} (hc : 0 ≤ c ∧ c ≤ 1000000) (s : Nat) (hG : zB c m0) (h0 : 3 ≤ s ∧ s < 35) (hE : zCe m0) : ∀ (d : Nat), ∀  (m : wm), 0 = d → zB c m → zfr (fun k i j => (k = 22 ∧ j = 3) ∨ (k = 23) ∨ (k = 24) ∨ (k = 25) ∨ (k = 26 ∧ i < 8) ∨ (k = 28 ∧ i < 8) ∨ (k = 29 ∧ i < 8) ∨ (k = 1 ∧ 101 ≤ i ∧ i < 157 ∧ j = 1) ∨ (k = 19 ∧ j = 5)) m0 m → (zW1 m0 m s) → (zCe m) →  wW (zK sc) zM103 43 [(0, .inr (.inr (.inl (some (19, 0))))), (1, .inr (.inr (.inl (some (1, s)))))] [] n m (wr (fun vv n1 m1 => ∃ r : Int, vv = some (.inl r) ∧ n = n1 ∧ zB c m1 ∧ zfr (fun k i j => (k = 22 ∧ j = 3) ∨ (k = 23) ∨ (k = 24) ∨ (k = 25) ∨ (k = 26 ∧ i < 8) ∨ (k = 28 ∧ i < 8) ∨ (k = 29 ∧ i < 8) ∨ (k = 1 ∧ 101 ≤ i ∧ i < 157 ∧ j = 1) ∨ (k = 19 ∧ j = 5)) m0 m1 ∧ (zWd m0 m1 s r))) := by
  intro d
  induction d using Nat.strongRecOn with
  | ind d ih =>
    intro  m hd hGm hFm hW hC
    have zr0 := zBat_rg hG s 0
    have zr1 := zBat_rg hG s 1
    have zr2 := zBat_rg hG s 2
    have zr3 := zBat_rg hG s 3
    have zr4 := zBat_rg hG s 4
    have zr5 := zBat_rg hG s 5
    have zr6 := zBat_rg hG s 6
    have zr7 := zBat_rg hG s 7
    have zs0 := zBat_rg hGm s 0
    have zs1 := zBat_rg hGm s 1
    have zs2 := zBat_rg hGm s 2
    have zs3 := zBat_rg hGm s 3
    have zs4 := zBat_rg hGm s 4
    have zs5 := zBat_rg hGm s 5
    have zs6 := zBat_rg hGm s 6
    have zs7 := zBat_rg hGm s 7
    have zw0x : zBat m s 0 = zBat m0 s 0 := zBat_fr 0 hFm (show ¬ ((1 = 22 ∧ 1 = 3) ∨ (1 = 23) ∨ (1 = 24) ∨ (1 = 25) ∨ (1 = 26 ∧ s < 8) ∨ (1 = 28 ∧ s < 8) ∨ (1 = 29 ∧ s < 8) ∨ (1 = 1 ∧ 101 ≤ s ∧ s < 157 ∧ 1 = 1) ∨ (1 = 19 ∧ 1 = 5)) from by omega) (fun j => (show ¬ ((2 = 22 ∧ j = 3) ∨ (2 = 23) ∨ (2 = 24) ∨ (2 = 25) ∨ (2 = 26 ∧ s < 8) ∨ (2 = 28 ∧ s < 8) ∨ (2 = 29 ∧ s < 8) ∨ (2 = 1 ∧ 101 ≤ s ∧ s < 157 ∧ j = 1) ∨ (2 = 19 ∧ j = 5)) from by omega))
    have zw1x : zBat m s 1 = zBat m0 s 1 := zBat_fr 1 hFm (show ¬ ((1 = 22 ∧ 1 = 3) ∨ (1 = 23) ∨ (1 = 24) ∨ (1 = 25) ∨ (1 = 26 ∧ s < 8) ∨ (1 = 28 ∧ s < 8) ∨ (1 = 29 ∧ s < 8) ∨ (1 = 1 ∧ 101 ≤ s ∧ s < 157 ∧ 1 = 1) ∨ (1 = 19 ∧ 1 = 5)) from by omega) (fun j => (show ¬ ((2 = 22 ∧ j = 3) ∨ (2 = 23) ∨ (2 = 24) ∨ (2 = 25) ∨ (2 = 26 ∧ s < 8) ∨ (2 = 28 ∧ s < 8) ∨ (2 = 29 ∧ s < 8) ∨ (2 = 1 ∧ 101 ≤ s ∧ s < 157 ∧ j = 1) ∨ (2 = 19 ∧ j = 5)) from by omega))
    have zw2x : zBat m s 2 = zBat m0 s 2 := zBat_fr 2 hFm (show ¬ ((1 = 22 ∧ 1 = 3) ∨ (1 = 23) ∨ (1 = 24) ∨ (1 = 25) ∨ (1 = 26 ∧ s < 8) ∨ (1 = 28 ∧ s < 8) ∨ (1 = 29 ∧ s < 8) ∨ (1 = 1 ∧ 101 ≤ s ∧ s < 157 ∧ 1 = 1) ∨ (1 = 19 ∧ 1 = 5)) from by omega) (fun j => (show ¬ ((2 = 22 ∧ j = 3) ∨ (2 = 23) ∨ (2 = 24) ∨ (2 = 25) ∨ (2 = 26 ∧ s < 8) ∨ (2 = 28 ∧ s < 8) ∨ (2 = 29 ∧ s < 8) ∨ (2 = 1 ∧ 101 ≤ s ∧ s < 157 ∧ j = 1) ∨ (2 = 19 ∧ j = 5)) from by omega))
    have zw3x : zBat m s 3 = zBat m0 s 3 := zBat_fr 3 hFm (show ¬ ((1 = 22 ∧ 1 = 3) ∨ (1 = 23) ∨ (1 = 24) ∨ (1 = 25) ∨ (1 = 26 ∧ s < 8) ∨ (1 = 28 ∧ s < 8) ∨ (1 = 29 ∧ s < 8) ∨ (1 = 1 ∧ 101 ≤ s ∧ s < 157 ∧ 1 = 1) ∨ (1 = 19 ∧ 1 = 5)) from by omega) (fun j => (show ¬ ((2 = 22 ∧ j = 3) ∨ (2 = 23) ∨ (2 = 24) ∨ (2 = 25) ∨ (2 = 26 ∧ s < 8) ∨ (2 = 28 ∧ s < 8) ∨ (2 = 29 ∧ s < 8) ∨ (2 = 1 ∧ 101 ≤ s ∧ s < 157 ∧ j = 1) ∨ (2 = 19 ∧ j = 5)) from by omega))
    have zw4x : zBat m s 4 = zBat m0 s 4 := zBat_fr 4 hFm (show ¬ ((1 = 22 ∧ 1 = 3) ∨ (1 = 23) ∨ (1 = 24) ∨ (1 = 25) ∨ (1 = 26 ∧ s < 8) ∨ (1 = 28 ∧ s < 8) ∨ (1 = 29 ∧ s < 8) ∨ (1 = 1 ∧ 101 ≤ s ∧ s < 157 ∧ 1 = 1) ∨ (1 = 19 ∧ 1 = 5)) from by omega) (fun j => (show ¬ ((2 = 22 ∧ j = 3) ∨ (2 = 23) ∨ (2 = 24) ∨ (2 = 25) ∨ (2 = 26 ∧ s < 8) ∨ (2 = 28 ∧ s < 8) ∨ (2 = 29 ∧ s < 8) ∨ (2 = 1 ∧ 101 ≤ s ∧ s < 157 ∧ j = 1) ∨ (2 = 19 ∧ j = 5)) from by omega))
    have zw5x : zBat m s 5 = zBat m0 s 5 := zBat_fr 5 hFm (show ¬ ((1 = 22 ∧ 1 = 3) ∨ (1 = 23) ∨ (1 = 24) ∨ (1 = 25) ∨ (1 = 26 ∧ s < 8) ∨ (1 = 28 ∧ s < 8) ∨ (1 = 29 ∧ s < 8) ∨ (1 = 1 ∧ 101 ≤ s ∧ s < 157 ∧ 1 = 1) ∨ (1 = 19 ∧ 1 = 5)) from by omega) (fun j => (show ¬ ((2 = 22 ∧ j = 3) ∨ (2 = 23) ∨ (2 = 24) ∨ (2 = 25) ∨ (2 = 26 ∧ s < 8) ∨ (2 = 28 ∧ s < 8) ∨ (2 = 29 ∧ s < 8) ∨ (2 = 1 ∧ 101 ≤ s ∧ s < 157 ∧ j = 1) ∨ (2 = 19 ∧ j = 5)) from by omega))
    have zw6x : zBat m s 6 = zBat m0 s 6 := zBat_fr 6 hFm (show ¬ ((1 = 22 ∧ 1 = 3) ∨ (1 = 23) ∨ (1 = 24) ∨ (1 = 25) ∨ (1 = 26 ∧ s < 8) ∨ (1 = 28 ∧ s < 8) ∨ (1 = 29 ∧ s < 8) ∨ (1 = 1 ∧ 101 ≤ s ∧ s < 157 ∧ 1 = 1) ∨ (1 = 19 ∧ 1 = 5)) from by omega) (fun j => (show ¬ ((2 = 22 ∧ j = 3) ∨ (2 = 23) ∨ (2 = 24) ∨ (2 = 25) ∨ (2 = 26 ∧ s < 8) ∨ (2 = 28 ∧ s < 8) ∨ (2 = 29 ∧ s < 8) ∨ (2 = 1 ∧ 101 ≤ s ∧ s < 157 ∧ j = 1) ∨ (2 = 19 ∧ j = 5)) from by omega))
    have zw7x : zBat m s 7 = zBat m0 s 7 := zBat_fr 7 hFm (show ¬ ((1 = 22 ∧ 1 = 3) ∨ (1 = 23) ∨ (1 = 24) ∨ (1 = 25) ∨ (1 = 26 ∧ s < 8) ∨ (1 = 28 ∧ s < 8) ∨ (1 = 29 ∧ s < 8) ∨ (1 = 1 ∧ 101 ≤ s ∧ s < 157 ∧ 1 = 1) ∨ (1 = 19 ∧ 1 = 5)) from by omega) (fun j => (show ¬ ((2 = 22 ∧ j = 3) ∨ (2 = 23) ∨ (2 = 24) ∨ (2 = 25) ∨ (2 = 26 ∧ s < 8) ∨ (2 = 28 ∧ s < 8) ∨ (2 = 29 ∧ s < 8) ∨ (2 = 1 ∧ 101 ≤ s ∧ s < 157 ∧ j = 1) ∨ (2 = 19 ∧ j = 5)) from by omega))
    refine ww_go 2 (pc' := 45) (L' := [(0, .inr (.inr (.inl (some (19, 0))))), (1, .inr (.inr (.inl (some (1, s)))))]) (st' := [.inr (.inr (.inl (some (1, s)))), .inr (.inr (.inl (some (19, 0))))]) (m' := m) (o := none) rfl trivial ?_
    refine ww_call (vs := [.inr (.inr (.inl (some (19, 0)))), .inr (.inr (.inl (some (1, s))))]) (r := []) (p := 0 < 1) rfl rfl rfl rfl (show 0 < 1 from by omega) (yt76 (c := c) (by omega) s hGm (by omega)) ?_
    rintro _ _ _ ⟨r1, rfl, rfl, rfl, hr2⟩
    show wW (zK sc) zM103 48 [(0, .inr (.inr (.inl (some (19, 0))))), (1, .inr (.inr (.inl (some (1, s)))))] [.inl r1] _ _ _
    refine ww_if (t := 53) rfl rfl (by omega) (fun (h3 : r1 ≠ 0) => ?_) (fun (h3 : ¬ (r1 ≠ 0)) => ?_)
    · show wW (zK sc) zM103 53 [(0, .inr (.inr (.inl (some (19, 0))))), (1, .inr (.inr (.inl (some (1, s)))))] [] _ _ _
      refine ww_go 2 (pc' := 55) (L' := [(0, .inr (.inr (.inl (some (19, 0))))), (1, .inr (.inr (.inl (some (1, s)))))]) (st' := [.inl 1, .inr (.inr (.inl (some (1, s))))]) (m' := m) (o := none) rfl trivial ?_
      refine ww_call (vs := [.inr (.inr (.inl (some (1, s)))), .inl 1]) (r := []) (p := s < 171) rfl rfl rfl rfl (show s < 171 from by omega) (zs28 (c := c) (by omega) 1 s hGm (by omega)) ?_
      rintro _ _ _ ⟨r4, rfl, rfl, rfl, hr5⟩
      obtain ⟨zc1, zc2, zc3, zc4, zc5, _⟩ := hr2.elim (fun z => z.2) (fun z => absurd z.1 (by omega))
      show wW (zK sc) zM103 58 [(0, .inr (.inr (.inl (some (19, 0))))), (1, .inr (.inr (.inl (some (1, s)))))] [.inl r4] _ _ _
      refine ww_go 4 (pc' := 62) (L' := [(2, .inl r4), (0, .inr (.inr (.inl (some (19, 0))))), (1, .inr (.inr (.inl (some (1, s)))))]) (st' := [.inl 2, .inl 2, .inr (.inr (.inl (some (1, s))))]) (m' := m) (o := none) rfl trivial ?_
      refine ww_call (vs := [.inr (.inr (.inl (some (1, s)))), .inl 2, .inl 2]) (r := []) (p := s < 171) rfl rfl rfl rfl (show s < 171 from by omega) (zs36 (c := c) (by omega) 2 2 s hGm (by omega)) ?_
      rintro _ _ _ ⟨r6, rfl, rfl, rfl, hr7⟩
      have z8 := (hr7).1 rfl
      rw [show (2 : Int) + 1 = 3 from rfl] at z8
      show wW (zK sc) zM103 65 [(2, .inl r4), (0, .inr (.inr (.inl (some (19, 0))))), (1, .inr (.inr (.inl (some (1, s)))))] [.inr (.inl r6)] _ _ _
      have t9 := wl2i_rg r6
      refine ww_go 5 (pc' := 70) (L' := [(3, .inl (wl2i r6)), (2, .inl r4), (0, .inr (.inr (.inl (some (19, 0))))), (1, .inr (.inr (.inl (some (1, s)))))]) (st' := [.inl (wl2i r6), .inl r4, .inr (.inr (.inl (some (19, 0))))]) (m' := m) (o := none) rfl trivial ?_
      refine ww_call (vs := [.inr (.inr (.inl (some (19, 0)))), .inl r4, .inl (wl2i r6)]) (r := []) (p := 0 < 1) rfl rfl rfl rfl (show 0 < 1 from by omega) (yt88 (c := c) (by omega) r4 (wl2i r6) hGm (by omega)) ?_
      rintro _ _ m12 ⟨r10, rfl, rfl, hGm12, hEm12, hr11⟩
      have hFm12 : zfr (fun k i j => (k = 22 ∧ j = 3) ∨ (k = 23) ∨ (k = 24) ∨ (k = 25) ∨ (k = 26 ∧ i < 8) ∨ (k = 28 ∧ i < 8) ∨ (k = 29 ∧ i < 8) ∨ (k = 1 ∧ 101 ≤ i ∧ i < 157 ∧ j = 1) ∨ (k = 19 ∧ j = 5)) m0 m12 := zfr_tr hFm hEm12 (fun k i j z => Or.elim z (fun z => Or.inl z) (fun z => Or.elim z (fun z => Or.inr (Or.inl z)) (fun z => Or.elim z (fun z => Or.inr (Or.inr (Or.inl z))) (fun z => Or.elim z (fun z => Or.inr (Or.inr (Or.inr (Or.inl z)))) (fun z => Or.elim z (fun z => Or.inr (Or.inr (Or.inr (Or.inr (Or.inl z))))) (fun z => Or.elim z (fun z => Or.inr (Or.inr (Or.inr (Or.inr (Or.inr (Or.inl z)))))) (fun z => Or.elim z (fun z => Or.inr (Or.inr (Or.inr (Or.inr (Or.inr (Or.inr (Or.inl z))))))) (fun z => Or.inr (Or.inr (Or.inr (Or.inr (Or.inr (Or.inr (Or.inr (Or.inl z)))))))))))))))
      show wW (zK sc) zM103 73 [(3, .inl (wl2i r6)), (2, .inl r4), (0, .inr (.inr (.inl (some (19, 0))))), (1, .inr (.inr (.inl (some (1, s)))))] [.inr (.inr (.inl (some (26, r10))))] _ _ _
      have zw13 : zBat m12 s 0 = zBat m0 s 0 := zBat_fr 0 hFm12 (show ¬ ((1 = 22 ∧ 1 = 3) ∨ (1 = 23) ∨ (1 = 24) ∨ (1 = 25) ∨ (1 = 26 ∧ s < 8) ∨ (1 = 28 ∧ s < 8) ∨ (1 = 29 ∧ s < 8) ∨ (1 = 1 ∧ 101 ≤ s ∧ s < 157 ∧ 1 = 1) ∨ (1 = 19 ∧ 1 = 5)) from by omega) (fun j => (show ¬ ((2 = 22 ∧ j = 3) ∨ (2 = 23) ∨ (2 = 24) ∨ (2 = 25) ∨ (2 = 26 ∧ s < 8) ∨ (2 = 28 ∧ s < 8) ∨ (2 = 29 ∧ s < 8) ∨ (2 = 1 ∧ 101 ≤ s ∧ s < 157 ∧ j = 1) ∨ (2 = 19 ∧ j = 5)) from by omega))
      have zw14 : zBat m12 s 1 = zBat m0 s 1 := zBat_fr 1 hFm12 (show ¬ ((1 = 22 ∧ 1 = 3) ∨ (1 = 23) ∨ (1 = 24) ∨ (1 = 25) ∨ (1 = 26 ∧ s < 8) ∨ (1 = 28 ∧ s < 8) ∨ (1 = 29 ∧ s < 8) ∨ (1 = 1 ∧ 101 ≤ s ∧ s < 157 ∧ 1 = 1) ∨ (1 = 19 ∧ 1 = 5)) from by omega) (fun j => (show ¬ ((2 = 22 ∧ j = 3) ∨ (2 = 23) ∨ (2 = 24) ∨ (2 = 25) ∨ (2 = 26 ∧ s < 8) ∨ (2 = 28 ∧ s < 8) ∨ (2 = 29 ∧ s < 8) ∨ (2 = 1 ∧ 101 ≤ s ∧ s < 157 ∧ j = 1) ∨ (2 = 19 ∧ j = 5)) from by omega))
      have zw15 : zBat m12 s 2 = zBat m0 s 2 := zBat_fr 2 hFm12 (show ¬ ((1 = 22 ∧ 1 = 3) ∨ (1 = 23) ∨ (1 = 24) ∨ (1 = 25) ∨ (1 = 26 ∧ s < 8) ∨ (1 = 28 ∧ s < 8) ∨ (1 = 29 ∧ s < 8) ∨ (1 = 1 ∧ 101 ≤ s ∧ s < 157 ∧ 1 = 1) ∨ (1 = 19 ∧ 1 = 5)) from by omega) (fun j => (show ¬ ((2 = 22 ∧ j = 3) ∨ (2 = 23) ∨ (2 = 24) ∨ (2 = 25) ∨ (2 = 26 ∧ s < 8) ∨ (2 = 28 ∧ s < 8) ∨ (2 = 29 ∧ s < 8) ∨ (2 = 1 ∧ 101 ≤ s ∧ s < 157 ∧ j = 1) ∨ (2 = 19 ∧ j = 5)) from by omega))
      have zw16 : zBat m12 s 3 = zBat m0 s 3 := zBat_fr 3 hFm12 (show ¬ ((1 = 22 ∧ 1 = 3) ∨ (1 = 23) ∨ (1 = 24) ∨ (1 = 25) ∨ (1 = 26 ∧ s < 8) ∨ (1 = 28 ∧ s < 8) ∨ (1 = 29 ∧ s < 8) ∨ (1 = 1 ∧ 101 ≤ s ∧ s < 157 ∧ 1 = 1) ∨ (1 = 19 ∧ 1 = 5)) from by omega) (fun j => (show ¬ ((2 = 22 ∧ j = 3) ∨ (2 = 23) ∨ (2 = 24) ∨ (2 = 25) ∨ (2 = 26 ∧ s < 8) ∨ (2 = 28 ∧ s < 8) ∨ (2 = 29 ∧ s < 8) ∨ (2 = 1 ∧ 101 ≤ s ∧ s < 157 ∧ j = 1) ∨ (2 = 19 ∧ j = 5)) from by omega))
      have zw17 : zBat m12 s 4 = zBat m0 s 4 := zBat_fr 4 hFm12 (show ¬ ((1 = 22 ∧ 1 = 3) ∨ (1 = 23) ∨ (1 = 24) ∨ (1 = 25) ∨ (1 = 26 ∧ s < 8) ∨ (1 = 28 ∧ s < 8) ∨ (1 = 29 ∧ s < 8) ∨ (1 = 1 ∧ 101 ≤ s ∧ s < 157 ∧ 1 = 1) ∨ (1 = 19 ∧ 1 = 5)) from by omega) (fun j => (show ¬ ((2 = 22 ∧ j = 3) ∨ (2 = 23) ∨ (2 = 24) ∨ (2 = 25) ∨ (2 = 26 ∧ s < 8) ∨ (2 = 28 ∧ s < 8) ∨ (2 = 29 ∧ s < 8) ∨ (2 = 1 ∧ 101 ≤ s ∧ s < 157 ∧ j = 1) ∨ (2 = 19 ∧ j = 5)) from by omega))
      have zw18 : zBat m12 s 5 = zBat m0 s 5 := zBat_fr 5 hFm12 (show ¬ ((1 = 22 ∧ 1 = 3) ∨ (1 = 23) ∨ (1 = 24) ∨ (1 = 25) ∨ (1 = 26 ∧ s < 8) ∨ (1 = 28 ∧ s < 8) ∨ (1 = 29 ∧ s < 8) ∨ (1 = 1 ∧ 101 ≤ s ∧ s < 157 ∧ 1 = 1) ∨ (1 = 19 ∧ 1 = 5)) from by omega) (fun j => (show ¬ ((2 = 22 ∧ j = 3) ∨ (2 = 23) ∨ (2 = 24) ∨ (2 = 25) ∨ (2 = 26 ∧ s < 8) ∨ (2 = 28 ∧ s < 8) ∨ (2 = 29 ∧ s < 8) ∨ (2 = 1 ∧ 101 ≤ s ∧ s < 157 ∧ j = 1) ∨ (2 = 19 ∧ j = 5)) from by omega))
      have zw19 : zBat m12 s 6 = zBat m0 s 6 := zBat_fr 6 hFm12 (show ¬ ((1 = 22 ∧ 1 = 3) ∨ (1 = 23) ∨ (1 = 24) ∨ (1 = 25) ∨ (1 = 26 ∧ s < 8) ∨ (1 = 28 ∧ s < 8) ∨ (1 = 29 ∧ s < 8) ∨ (1 = 1 ∧ 101 ≤ s ∧ s < 157 ∧ 1 = 1) ∨ (1 = 19 ∧ 1 = 5)) from by omega) (fun j => (show ¬ ((2 = 22 ∧ j = 3) ∨ (2 = 23) ∨ (2 = 24) ∨ (2 = 25) ∨ (2 = 26 ∧ s < 8) ∨ (2 = 28 ∧ s < 8) ∨ (2 = 29 ∧ s < 8) ∨ (2 = 1 ∧ 101 ≤ s ∧ s < 157 ∧ j = 1) ∨ (2 = 19 ∧ j = 5)) from by omega))
      have zw20 : zBat m12 s 7 = zBat m0 s 7 := zBat_fr 7 hFm12 (show ¬ ((1 = 22 ∧ 1 = 3) ∨ (1 = 23) ∨ (1 = 24) ∨ (1 = 25) ∨ (1 = 26 ∧ s < 8) ∨ (1 = 28 ∧ s < 8) ∨ (1 = 29 ∧ s < 8) ∨ (1 = 1 ∧ 101 ≤ s ∧ s < 157 ∧ 1 = 1) ∨ (1 = 19 ∧ 1 = 5)) from by omega) (fun j => (show ¬ ((2 = 22 ∧ j = 3) ∨ (2 = 23) ∨ (2 = 24) ∨ (2 = 25) ∨ (2 = 26 ∧ s < 8) ∨ (2 = 28 ∧ s < 8) ∨ (2 = 29 ∧ s < 8) ∨ (2 = 1 ∧ 101 ≤ s ∧ s < 157 ∧ j = 1) ∨ (2 = 19 ∧ j = 5)) from by omega))
      refine ww_go 1 (pc' := 75) (L' := [(4, .inr (.inr (.inl (some (26, r10))))), (3, .inl (wl2i r6)), (2, .inl r4), (0, .inr (.inr (.inl (some (19, 0))))), (1, .inr (.inr (.inl (some (1, s)))))]) (st' := []) (m' := m12) (o := none) rfl trivial ?_
      refine ww_sub (L := [(0, .inr (.inr (.inl (some (19, 0))))), (1, .inr (.inr (.inl (some (1, s))))), (2, .inl r4), (3, .inl (wl2i r6)), (4, .inr (.inr (.inl (some (26, r10)))))]) ⟨rfl, rfl, rfl, rfl, rfl, trivial⟩ rfl rfl ?_
      exact (yt103_l75 hc s hG h0 hE _) r4 (wl2i r6) r10 m12 rfl (zB_mono hGm12 (by omega)) hFm12 (by omega) (by have z9 := hr2.elim (fun z => z.2) (fun z => absurd z.1 (by omega)); obtain ⟨z1, z2, z3, z4, z5, _⟩ := z9; omega) (by exact ⟨m, hW, hr2.elim (fun z => z.2) (fun z => absurd z.1 (by omega)), (by have z9 := hr11; rw [show r4 = zBat m0 s 1 from by omega, show wl2i r6 = 256 * zBat m0 s 2 + zBat m0 s 3 from by omega] at z9; exact ⟨z9.1, zfr_tr zfr_rf hEm12 (fun k i j z => z), z9.2⟩)⟩) (by exact zCe_le hC hr11.2)
    · show wW (zK sc) zM103 51 [(0, .inr (.inr (.inl (some (19, 0))))), (1, .inr (.inr (.inl (some (1, s)))))] [] _ _ _
      refine ww_go 1 (pc' := 52) (L' := [(0, .inr (.inr (.inl (some (19, 0))))), (1, .inr (.inr (.inl (some (1, s)))))]) (st' := [.inl 3]) (m' := m) (o := none) rfl trivial ?_
      exact ww_rI rfl rfl ⟨_, rfl, rfl, zB_mono hGm (by omega), hFm, Or.inr (Or.inr (Or.inl ⟨rfl, hW, hr2.elim (fun z => absurd z.1 (by omega)) (fun z => z.2)⟩))⟩
set_option maxRecDepth 8000 in
/-- Receiver.whyDropped -/
theorem yt103 {sc : xSc} {n : Nat × Nat} {m0 : wm} {c : Int} (hc : 0 ≤ c ∧ c ≤ 1000000) (s : Nat) (hG : zB c m0) (h0 : 3 ≤ s ∧ s < 35) (hE : zCe m0) : wX (zK sc) 103 [.inr (.inr (.inl (some (19, 0)))), .inr (.inr (.inl (some (1, s))))] n m0 (wr (fun vv n1 m1 => ∃ r : Int, vv = some (.inl r) ∧ n = n1 ∧ zB c m1 ∧ zfr (fun k i j => (k = 22 ∧ j = 3) ∨ (k = 23) ∨ (k = 24) ∨ (k = 25) ∨ (k = 26 ∧ i < 8) ∨ (k = 28 ∧ i < 8) ∨ (k = 29 ∧ i < 8) ∨ (k = 1 ∧ 101 ≤ i ∧ i < 157 ∧ j = 1) ∨ (k = 19 ∧ j = 5)) m0 m1 ∧ (zWd m0 m1 s r))) := by
  refine wX_of (N := zM103) rfl (Nat.le_of_ble_eq_true rfl) ?_
  show wW (zK sc) zM103 0 [(0, .inr (.inr (.inl (some (19, 0))))), (1, .inr (.inr (.inl (some (1, s)))))] [] n m0 _
  have hF : zfr (fun k i j => (k = 22 ∧ j = 3) ∨ (k = 23) ∨ (k = 24) ∨ (k = 25) ∨ (k = 26 ∧ i < 8) ∨ (k = 28 ∧ i < 8) ∨ (k = 29 ∧ i < 8) ∨ (k = 1 ∧ 101 ≤ i ∧ i < 157 ∧ j = 1) ∨ (k = 19 ∧ j = 5)) m0 m0 := zfr_rf
  have zr0 := zBat_rg hG s 0
  have zr1 := zBat_rg hG s 1
  have zr2 := zBat_rg hG s 2
  have zr3 := zBat_rg hG s 3
  have zr4 := zBat_rg hG s 4
  have zr5 := zBat_rg hG s 5
  have zr6 := zBat_rg hG s 6
  have zr7 := zBat_rg hG s 7
  refine ww_go 2 (pc' := 3) (L' := [(0, .inr (.inr (.inl (some (19, 0))))), (1, .inr (.inr (.inl (some (1, s)))))]) (st' := [.inl 16, .inr (.inr (.inl (some (1, s))))]) (m' := m0) (o := none) rfl trivial ?_
  refine ww_call (vs := [.inr (.inr (.inl (some (1, s)))), .inl 16]) (r := []) (p := s < 171) rfl rfl rfl rfl (show s < 171 from by omega) (zs33 (c := c) (by omega) 16 s hG (by omega)) ?_
  rintro _ _ _ ⟨r1, rfl, rfl, rfl, hr2⟩
  show wW (zK sc) zM103 6 [(0, .inr (.inr (.inl (some (19, 0))))), (1, .inr (.inr (.inl (some (1, s)))))] [.inr (.inl r1)] _ _ _
  refine ww_go 3 (pc' := 11) (L' := [(0, .inr (.inr (.inl (some (19, 0))))), (1, .inr (.inr (.inl (some (1, s)))))]) (st' := [.inl 8, .inl 16, .inr (.inr (.inl (some (1, s)))), .inr (.inl r1)]) (m' := m0) (o := none) rfl trivial ?_
  refine ww_call (vs := [.inr (.inr (.inl (some (1, s)))), .inl 16, .inl 8]) (r := [.inr (.inl r1)]) (p := s < 171) rfl rfl rfl rfl (show s < 171 from by omega) (zs36 (c := c) (by omega) 16 8 s hG (by omega)) ?_
  rintro _ _ _ ⟨r3, rfl, rfl, rfl, hr4⟩
  show wW (zK sc) zM103 14 [(0, .inr (.inr (.inl (some (19, 0))))), (1, .inr (.inr (.inl (some (1, s)))))] [.inr (.inl r3), .inr (.inl r1)] _ _ _
  have t5 := wlcmp_rg r1 r3
  refine ww_go 1 (pc' := 15) (L' := [(0, .inr (.inr (.inl (some (19, 0))))), (1, .inr (.inr (.inl (some (1, s)))))]) (st' := [.inl (wlcmp r1 r3)]) (m' := m0) (o := none) rfl trivial ?_
  refine ww_if (t := 20) rfl rfl (by omega) (fun (h6 : wlcmp r1 r3 = 0) => ?_) (fun (h6 : ¬ (wlcmp r1 r3 = 0)) => ?_)
  · show wW (zK sc) zM103 20 [(0, .inr (.inr (.inl (some (19, 0))))), (1, .inr (.inr (.inl (some (1, s)))))] [] _ _ _
    refine ww_go 3 (pc' := 23) (L' := [(0, .inr (.inr (.inl (some (19, 0))))), (1, .inr (.inr (.inl (some (1, s)))))]) (st' := [.inl 0, .inr (.inr (.inl (some (1, s)))), .inr (.inr (.inl (some (19, 0))))]) (m' := m0) (o := none) rfl trivial ?_
    refine ww_call (vs := [.inr (.inr (.inl (some (1, s)))), .inl 0]) (r := [.inr (.inr (.inl (some (19, 0))))]) (p := s < 171) rfl rfl rfl rfl (show s < 171 from by omega) (zs28 (c := c) (by omega) 0 s hG (by omega)) ?_
    rintro _ _ _ ⟨r7, rfl, rfl, rfl, hr8⟩
    show wW (zK sc) zM103 26 [(0, .inr (.inr (.inl (some (19, 0))))), (1, .inr (.inr (.inl (some (1, s)))))] [.inl r7, .inr (.inr (.inl (some (19, 0))))] _ _ _
    refine ww_call (vs := [.inr (.inr (.inl (some (19, 0)))), .inl r7]) (r := []) (p := 0 < 1) rfl rfl rfl rfl (show 0 < 1 from by omega) (yt98 (c := c) (by omega) r7 hG (by omega)) ?_
    rintro _ _ m11 ⟨rfl, rfl, hGm11, hEm11, hr10⟩
    have hFm11 : zfr (fun k i j => (k = 22 ∧ j = 3) ∨ (k = 23) ∨ (k = 24) ∨ (k = 25) ∨ (k = 26 ∧ i < 8) ∨ (k = 28 ∧ i < 8) ∨ (k = 29 ∧ i < 8) ∨ (k = 1 ∧ 101 ≤ i ∧ i < 157 ∧ j = 1) ∨ (k = 19 ∧ j = 5)) m0 m11 := zfr_tr hF hEm11 (fun k i j z => Or.elim z (fun z => Or.inl z) (fun z => Or.inr (Or.inr (Or.inr (Or.inr (Or.inr (Or.inr (Or.inr (Or.inr (z))))))))))
    show wW (zK sc) zM103 29 [(0, .inr (.inr (.inl (some (19, 0))))), (1, .inr (.inr (.inl (some (1, s)))))] [] _ _ _
    have zw12 : zBat m11 s 0 = zBat m0 s 0 := zBat_fr 0 hFm11 (show ¬ ((1 = 22 ∧ 1 = 3) ∨ (1 = 23) ∨ (1 = 24) ∨ (1 = 25) ∨ (1 = 26 ∧ s < 8) ∨ (1 = 28 ∧ s < 8) ∨ (1 = 29 ∧ s < 8) ∨ (1 = 1 ∧ 101 ≤ s ∧ s < 157 ∧ 1 = 1) ∨ (1 = 19 ∧ 1 = 5)) from by omega) (fun j => (show ¬ ((2 = 22 ∧ j = 3) ∨ (2 = 23) ∨ (2 = 24) ∨ (2 = 25) ∨ (2 = 26 ∧ s < 8) ∨ (2 = 28 ∧ s < 8) ∨ (2 = 29 ∧ s < 8) ∨ (2 = 1 ∧ 101 ≤ s ∧ s < 157 ∧ j = 1) ∨ (2 = 19 ∧ j = 5)) from by omega))
    have zw13 : zBat m11 s 1 = zBat m0 s 1 := zBat_fr 1 hFm11 (show ¬ ((1 = 22 ∧ 1 = 3) ∨ (1 = 23) ∨ (1 = 24) ∨ (1 = 25) ∨ (1 = 26 ∧ s < 8) ∨ (1 = 28 ∧ s < 8) ∨ (1 = 29 ∧ s < 8) ∨ (1 = 1 ∧ 101 ≤ s ∧ s < 157 ∧ 1 = 1) ∨ (1 = 19 ∧ 1 = 5)) from by omega) (fun j => (show ¬ ((2 = 22 ∧ j = 3) ∨ (2 = 23) ∨ (2 = 24) ∨ (2 = 25) ∨ (2 = 26 ∧ s < 8) ∨ (2 = 28 ∧ s < 8) ∨ (2 = 29 ∧ s < 8) ∨ (2 = 1 ∧ 101 ≤ s ∧ s < 157 ∧ j = 1) ∨ (2 = 19 ∧ j = 5)) from by omega))
    have zw14 : zBat m11 s 2 = zBat m0 s 2 := zBat_fr 2 hFm11 (show ¬ ((1 = 22 ∧ 1 = 3) ∨ (1 = 23) ∨ (1 = 24) ∨ (1 = 25) ∨ (1 = 26 ∧ s < 8) ∨ (1 = 28 ∧ s < 8) ∨ (1 = 29 ∧ s < 8) ∨ (1 = 1 ∧ 101 ≤ s ∧ s < 157 ∧ 1 = 1) ∨ (1 = 19 ∧ 1 = 5)) from by omega) (fun j => (show ¬ ((2 = 22 ∧ j = 3) ∨ (2 = 23) ∨ (2 = 24) ∨ (2 = 25) ∨ (2 = 26 ∧ s < 8) ∨ (2 = 28 ∧ s < 8) ∨ (2 = 29 ∧ s < 8) ∨ (2 = 1 ∧ 101 ≤ s ∧ s < 157 ∧ j = 1) ∨ (2 = 19 ∧ j = 5)) from by omega))
    have zw15 : zBat m11 s 3 = zBat m0 s 3 := zBat_fr 3 hFm11 (show ¬ ((1 = 22 ∧ 1 = 3) ∨ (1 = 23) ∨ (1 = 24) ∨ (1 = 25) ∨ (1 = 26 ∧ s < 8) ∨ (1 = 28 ∧ s < 8) ∨ (1 = 29 ∧ s < 8) ∨ (1 = 1 ∧ 101 ≤ s ∧ s < 157 ∧ 1 = 1) ∨ (1 = 19 ∧ 1 = 5)) from by omega) (fun j => (show ¬ ((2 = 22 ∧ j = 3) ∨ (2 = 23) ∨ (2 = 24) ∨ (2 = 25) ∨ (2 = 26 ∧ s < 8) ∨ (2 = 28 ∧ s < 8) ∨ (2 = 29 ∧ s < 8) ∨ (2 = 1 ∧ 101 ≤ s ∧ s < 157 ∧ j = 1) ∨ (2 = 19 ∧ j = 5)) from by omega))
    have zw16 : zBat m11 s 4 = zBat m0 s 4 := zBat_fr 4 hFm11 (show ¬ ((1 = 22 ∧ 1 = 3) ∨ (1 = 23) ∨ (1 = 24) ∨ (1 = 25) ∨ (1 = 26 ∧ s < 8) ∨ (1 = 28 ∧ s < 8) ∨ (1 = 29 ∧ s < 8) ∨ (1 = 1 ∧ 101 ≤ s ∧ s < 157 ∧ 1 = 1) ∨ (1 = 19 ∧ 1 = 5)) from by omega) (fun j => (show ¬ ((2 = 22 ∧ j = 3) ∨ (2 = 23) ∨ (2 = 24) ∨ (2 = 25) ∨ (2 = 26 ∧ s < 8) ∨ (2 = 28 ∧ s < 8) ∨ (2 = 29 ∧ s < 8) ∨ (2 = 1 ∧ 101 ≤ s ∧ s < 157 ∧ j = 1) ∨ (2 = 19 ∧ j = 5)) from by omega))
    have zw17 : zBat m11 s 5 = zBat m0 s 5 := zBat_fr 5 hFm11 (show ¬ ((1 = 22 ∧ 1 = 3) ∨ (1 = 23) ∨ (1 = 24) ∨ (1 = 25) ∨ (1 = 26 ∧ s < 8) ∨ (1 = 28 ∧ s < 8) ∨ (1 = 29 ∧ s < 8) ∨ (1 = 1 ∧ 101 ≤ s ∧ s < 157 ∧ 1 = 1) ∨ (1 = 19 ∧ 1 = 5)) from by omega) (fun j => (show ¬ ((2 = 22 ∧ j = 3) ∨ (2 = 23) ∨ (2 = 24) ∨ (2 = 25) ∨ (2 = 26 ∧ s < 8) ∨ (2 = 28 ∧ s < 8) ∨ (2 = 29 ∧ s < 8) ∨ (2 = 1 ∧ 101 ≤ s ∧ s < 157 ∧ j = 1) ∨ (2 = 19 ∧ j = 5)) from by omega))
    have zw18 : zBat m11 s 6 = zBat m0 s 6 := zBat_fr 6 hFm11 (show ¬ ((1 = 22 ∧ 1 = 3) ∨ (1 = 23) ∨ (1 = 24) ∨ (1 = 25) ∨ (1 = 26 ∧ s < 8) ∨ (1 = 28 ∧ s < 8) ∨ (1 = 29 ∧ s < 8) ∨ (1 = 1 ∧ 101 ≤ s ∧ s < 157 ∧ 1 = 1) ∨ (1 = 19 ∧ 1 = 5)) from by omega) (fun j => (show ¬ ((2 = 22 ∧ j = 3) ∨ (2 = 23) ∨ (2 = 24) ∨ (2 = 25) ∨ (2 = 26 ∧ s < 8) ∨ (2 = 28 ∧ s < 8) ∨ (2 = 29 ∧ s < 8) ∨ (2 = 1 ∧ 101 ≤ s ∧ s < 157 ∧ j = 1) ∨ (2 = 19 ∧ j = 5)) from by omega))
    have zw19 : zBat m11 s 7 = zBat m0 s 7 := zBat_fr 7 hFm11 (show ¬ ((1 = 22 ∧ 1 = 3) ∨ (1 = 23) ∨ (1 = 24) ∨ (1 = 25) ∨ (1 = 26 ∧ s < 8) ∨ (1 = 28 ∧ s < 8) ∨ (1 = 29 ∧ s < 8) ∨ (1 = 1 ∧ 101 ≤ s ∧ s < 157 ∧ 1 = 1) ∨ (1 = 19 ∧ 1 = 5)) from by omega) (fun j => (show ¬ ((2 = 22 ∧ j = 3) ∨ (2 = 23) ∨ (2 = 24) ∨ (2 = 25) ∨ (2 = 26 ∧ s < 8) ∨ (2 = 28 ∧ s < 8) ∨ (2 = 29 ∧ s < 8) ∨ (2 = 1 ∧ 101 ≤ s ∧ s < 157 ∧ j = 1) ∨ (2 = 19 ∧ j = 5)) from by omega))
    have znl9 : zNlf m0 m11 (zBat m0 s 0) := ⟨zfr_tr zfr_rf hEm11 (fun k i j z => z), (by have z9 := hr10; rw [show r7 = zBat m0 s 0 from by omega] at z9; exact z9)⟩
    refine ww_go 2 (pc' := 31) (L' := [(0, .inr (.inr (.inl (some (19, 0))))), (1, .inr (.inr (.inl (some (1, s)))))]) (st' := [.inl 0, .inr (.inr (.inl (some (1, s))))]) (m' := m11) (o := none) rfl trivial ?_
    refine ww_call (vs := [.inr (.inr (.inl (some (1, s)))), .inl 0]) (r := []) (p := s < 171) rfl rfl rfl rfl (show s < 171 from by omega) (zs28 (c := c) (by omega) 0 s hGm11 (by omega)) ?_
    rintro _ _ _ ⟨r20, rfl, rfl, rfl, hr21⟩
    show wW (zK sc) zM103 34 [(0, .inr (.inr (.inl (some (19, 0))))), (1, .inr (.inr (.inl (some (1, s)))))] [.inl r20] _ _ _
    have b22 : 0 ≤ m11.1 19 0 5 ∧ m11.1 19 0 5 ≤ 255 := hGm11.1 19 _ rfl _ _
    refine ww_go 2 (pc' := 38) (L' := [(0, .inr (.inr (.inl (some (19, 0))))), (1, .inr (.inr (.inl (some (1, s)))))]) (st' := [.inl (m11.1 19 0 5), .inl r20]) (m' := m11) (o := some ((0 < 1))) rfl (show (0 < 1) from by omega) ?_
    refine ww_ic (t := 43) rfl rfl (by omega) (fun (h23 : m11.1 19 0 5 ≤ r20) => ?_) (fun (h23 : ¬ (m11.1 19 0 5 ≤ r20)) => ?_)
    · show wW (zK sc) zM103 43 [(0, .inr (.inr (.inl (some (19, 0))))), (1, .inr (.inr (.inl (some (1, s)))))] [] _ _ _
      exact (yt103_l43 hc s hG h0 hE _)  m11 rfl (zB_mono hGm11 (by omega)) hFm11 (by exact ⟨(by have z8 := (wlcmp_rg r1 r3).2.2.1 (by omega); rw [hr2, hr4.2 (by omega)] at z8; exact z8), znl9, by omega⟩) (by exact zCe_nl hE znl9)
    · show wW (zK sc) zM103 41 [(0, .inr (.inr (.inl (some (19, 0))))), (1, .inr (.inr (.inl (some (1, s)))))] [] _ _ _
      refine ww_go 1 (pc' := 42) (L' := [(0, .inr (.inr (.inl (some (19, 0))))), (1, .inr (.inr (.inl (some (1, s)))))]) (st' := [.inl 2]) (m' := m11) (o := none) rfl trivial ?_
      exact ww_rI rfl rfl ⟨_, rfl, rfl, zB_mono hGm11 (by omega), hFm11, Or.inr (Or.inl ⟨rfl, (by have z8 := (wlcmp_rg r1 r3).2.2.1 (by omega); rw [hr2, hr4.2 (by omega)] at z8; exact z8), znl9, by omega⟩)⟩
  · show wW (zK sc) zM103 18 [(0, .inr (.inr (.inl (some (19, 0))))), (1, .inr (.inr (.inl (some (1, s)))))] [] _ _ _
    refine ww_go 1 (pc' := 19) (L' := [(0, .inr (.inr (.inl (some (19, 0))))), (1, .inr (.inr (.inl (some (1, s)))))]) (st' := [.inl 1]) (m' := m0) (o := none) rfl trivial ?_
    exact ww_rI rfl rfl ⟨_, rfl, rfl, zB_mono hG (by omega), hF, Or.inl ⟨rfl, fun z => (by have z8 := (wlcmp_rg r1 r3).2.2.2 (by rw [hr2, hr4.2 (by omega)]; exact z); omega), rfl⟩⟩
