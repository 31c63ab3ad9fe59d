set_option maxRecDepth 8000 in
theorem zs92_l92 {sc : xSc} {n : Nat × Nat} {m0 : wm} {c : Int} (hc : 0 ≤ c ∧ c ≤ 980000) (s : Nat) (hG : zB c m0) (h0 : s < 101) : ∀ (d : Nat), ∀ (x : Int) (z : Int) (m : wm), (4 - z).toNat = d → zB (c + z) m → zfr (fun k i j => (k = 22) ∨ (k = 23) ∨ (k = 24) ∨ (k = 25) ∨ (k = 1 ∧ 101 ≤ i ∧ i < 171 ∧ j = 1) ∨ (k = 2 ∧ 101 ≤ i ∧ i < 171) ∨ (26 ≤ k ∧ k ≤ 33 ∧ i < 10) ∨ (k = 1 ∧ i = 2 ∧ j = 1) ∨ (k = 2 ∧ i = 2) ∨ (k = 16) ∨ (k = 17) ∨ (k = 18) ∨ (k = 19)) m0 m → (0 ≤ x ∧ x ≤ 1 ∧ 0 ≤ z ∧ z ≤ 4) →  wW (zK sc) zM92 92 [(0, .inr (.inr (.inl (some (19, 0))))), (3, .inl x), (6, .inl z)] [] n m (wr (fun vv n1 m1 => ∃ r : Int, vv = some (.inl r) ∧ n = n1 ∧ zB (c + 4) m1 ∧ zfr (fun k i j => (k = 22) ∨ (k = 23) ∨ (k = 24) ∨ (k = 25) ∨ (k = 1 ∧ 101 ≤ i ∧ i < 171 ∧ j = 1) ∨ (k = 2 ∧ 101 ≤ i ∧ i < 171) ∨ (26 ≤ k ∧ k ≤ 33 ∧ i < 10) ∨ (k = 1 ∧ i = 2 ∧ j = 1) ∨ (k = 2 ∧ i = 2) ∨ (k = 16) ∨ (k = 17) ∨ (k = 18) ∨ (k = 19)) m0 m1 ∧ (0 ≤ r ∧ r ≤ 6))) := by
  intro d
  induction d using Nat.strongRecOn with
  | ind d ih =>
    intro x z m hd hGm hFm hi
    refine ww_go 2 (pc' := 95) (L' := [(0, .inr (.inr (.inl (some (19, 0))))), (3, .inl x), (6, .inl z)]) (st' := [.inl 4, .inl z]) (m' := m) (o := none) rfl trivial ?_
    refine ww_ic (t := 114) rfl rfl (by omega) (fun (h1 : 4 ≤ z) => ?_) (fun (h1 : ¬ (4 ≤ z)) => ?_)
    · show wW (zK sc) zM92 114 [(0, .inr (.inr (.inl (some (19, 0))))), (3, .inl x), (6, .inl z)] [] _ _ _
      refine ww_go 1 (pc' := 115) (L' := [(0, .inr (.inr (.inl (some (19, 0))))), (3, .inl x), (6, .inl z)]) (st' := [.inl 0]) (m' := m) (o := none) rfl trivial ?_
      exact ww_rI rfl rfl ⟨_, rfl, rfl, zB_mono hGm (by omega), hFm, by omega⟩
    · show wW (zK sc) zM92 98 [(0, .inr (.inr (.inl (some (19, 0))))), (3, .inl x), (6, .inl z)] [] _ _ _
      refine ww_go 3 (pc' := 101) (L' := [(0, .inr (.inr (.inl (some (19, 0))))), (3, .inl x), (6, .inl z)]) (st' := [.inl x, .inr (.inr (.inl (some (19, 0)))), .inr (.inr (.inl (some (19, 0))))]) (m' := m) (o := none) rfl trivial ?_
      refine ww_call (vs := [.inr (.inr (.inl (some (19, 0)))), .inl x]) (r := [.inr (.inr (.inl (some (19, 0))))]) (p := 0 < 1) rfl rfl rfl rfl (show 0 < 1 from by omega) (zs90 (c := (c + z)) (by omega) x hGm (by omega)) ?_
      rintro _ _ _ ⟨r2, rfl, rfl, rfl, hr3⟩
      rcases hr3 with rfl | ⟨e4, rfl, hr5⟩
      · show wW (zK sc) zM92 104 [(0, .inr (.inr (.inl (some (19, 0))))), (3, .inl x), (6, .inl z)] [.inr (.inr (.inl none)), .inr (.inr (.inl (some (19, 0))))] _ _ _
        refine ww_go 1 (pc' := 105) (L' := [(0, .inr (.inr (.inl (some (19, 0))))), (3, .inl x), (6, .inl z)]) (st' := [.inl x, .inr (.inr (.inl none)), .inr (.inr (.inl (some (19, 0))))]) (m' := m) (o := none) rfl trivial ?_
        refine ww_call (vs := [.inr (.inr (.inl (some (19, 0)))), .inr (.inr (.inl none)), .inl x]) (r := []) (p := 0 < 1) rfl rfl rfl rfl (show 0 < 1 from by omega) (zs85 (c := (c + z)) (by omega) x none hGm (by omega) (by first | exact Or.inl rfl | exact Or.inr ⟨_, rfl, by omega⟩)) ?_
        rintro _ _ m8 ⟨rfl, rfl, hGm8, hEm8, hr7⟩
        have hFm8 : zfr (fun k i j => (k = 22) ∨ (k = 23) ∨ (k = 24) ∨ (k = 25) ∨ (k = 1 ∧ 101 ≤ i ∧ i < 171 ∧ j = 1) ∨ (k = 2 ∧ 101 ≤ i ∧ i < 171) ∨ (26 ≤ k ∧ k ≤ 33 ∧ i < 10) ∨ (k = 1 ∧ i = 2 ∧ j = 1) ∨ (k = 2 ∧ i = 2) ∨ (k = 16) ∨ (k = 17) ∨ (k = 18) ∨ (k = 19)) m0 m8 := zfr_tr hFm hEm8 (fun k i j z => Or.elim z (fun z => Or.inr (Or.inr (Or.inr (Or.inr (Or.inr (Or.inr (Or.inl z))))))) (fun z => Or.elim z (fun z => Or.inr (Or.inr (Or.inr (Or.inr (Or.inr (Or.inr (Or.inr (Or.inl z)))))))) (fun z => Or.elim z (fun z => Or.inr (Or.inr (Or.inr (Or.inr (Or.inr (Or.inr (Or.inr (Or.inr (Or.inl z))))))))) (fun z => Or.elim z (fun z => Or.inr (Or.inr (Or.inr (Or.inr (Or.inr (Or.inr (Or.inr (Or.inr (Or.inr (Or.inl z)))))))))) (fun z => Or.elim z (fun z => Or.inr (Or.inr (Or.inr (Or.inr (Or.inr (Or.inr (Or.inr (Or.inr (Or.inr (Or.inr (Or.inl z))))))))))) (fun z => Or.inr (Or.inr (Or.inr (Or.inr (Or.inr (Or.inr (Or.inr (Or.inr (Or.inr (Or.inr (Or.inr (Or.inl z)))))))))))))))))
        show wW (zK sc) zM92 108 [(0, .inr (.inr (.inl (some (19, 0))))), (3, .inl x), (6, .inl z)] [] _ _ _
        refine ww_go 2 (pc' := 92) (L' := [(6, .inl (z + 1)), (0, .inr (.inr (.inl (some (19, 0))))), (3, .inl x)]) (st' := []) (m' := m8) (o := none) rfl trivial ?_
        refine ww_sub (L := [(0, .inr (.inr (.inl (some (19, 0))))), (3, .inl x), (6, .inl (z + 1))]) ⟨rfl, rfl, rfl, trivial⟩ rfl rfl ?_
        exact (ih _ (by omega)) x (z + 1) m8 rfl (zB_mono hGm8 (by omega)) hFm8 (by omega)
      · show wW (zK sc) zM92 104 [(0, .inr (.inr (.inl (some (19, 0))))), (3, .inl x), (6, .inl z)] [.inr (.inr (.inl (some (26, e4)))), .inr (.inr (.inl (some (19, 0))))] _ _ _
        refine ww_go 1 (pc' := 105) (L' := [(0, .inr (.inr (.inl (some (19, 0))))), (3, .inl x), (6, .inl z)]) (st' := [.inl x, .inr (.inr (.inl (some (26, e4)))), .inr (.inr (.inl (some (19, 0))))]) (m' := m) (o := none) rfl trivial ?_
        refine ww_call (vs := [.inr (.inr (.inl (some (19, 0)))), .inr (.inr (.inl (some (26, e4)))), .inl x]) (r := []) (p := 0 < 1) rfl rfl rfl rfl (show 0 < 1 from by omega) (zs85 (c := (c + z)) (by omega) x (some (26, e4)) hGm (by omega) (by first | exact Or.inl rfl | exact Or.inr ⟨_, rfl, by omega⟩)) ?_
        rintro _ _ m11 ⟨rfl, rfl, hGm11, hEm11, hr10⟩
        have hFm11 : zfr (fun k i j => (k = 22) ∨ (k = 23) ∨ (k = 24) ∨ (k = 25) ∨ (k = 1 ∧ 101 ≤ i ∧ i < 171 ∧ j = 1) ∨ (k = 2 ∧ 101 ≤ i ∧ i < 171) ∨ (26 ≤ k ∧ k ≤ 33 ∧ i < 10) ∨ (k = 1 ∧ i = 2 ∧ j = 1) ∨ (k = 2 ∧ i = 2) ∨ (k = 16) ∨ (k = 17) ∨ (k = 18) ∨ (k = 19)) m0 m11 := zfr_tr hFm hEm11 (fun k i j z => Or.elim z (fun z => Or.inr (Or.inr (Or.inr (Or.inr (Or.inr (Or.inr (Or.inl z))))))) (fun z => Or.elim z (fun z => Or.inr (Or.inr (Or.inr (Or.inr (Or.inr (Or.inr (Or.inr (Or.inl z)))))))) (fun z => Or.elim z (fun z => Or.inr (Or.inr (Or.inr (Or.inr (Or.inr (Or.inr (Or.inr (Or.inr (Or.inl z))))))))) (fun z => Or.elim z (fun z => Or.inr (Or.inr (Or.inr (Or.inr (Or.inr (Or.inr (Or.inr (Or.inr (Or.inr (Or.inl z)))))))))) (fun z => Or.elim z (fun z => Or.inr (Or.inr (Or.inr (Or.inr (Or.inr (Or.inr (Or.inr (Or.inr (Or.inr (Or.inr (Or.inl z))))))))))) (fun z => Or.inr (Or.inr (Or.inr (Or.inr (Or.inr (Or.inr (Or.inr (Or.inr (Or.inr (Or.inr (Or.inr (Or.inl z)))))))))))))))))
        show wW (zK sc) zM92 108 [(0, .inr (.inr (.inl (some (19, 0))))), (3, .inl x), (6, .inl z)] [] _ _ _
        refine ww_go 2 (pc' := 92) (L' := [(6, .inl (z + 1)), (0, .inr (.inr (.inl (some (19, 0))))), (3, .inl x)]) (st' := []) (m' := m11) (o := none) rfl trivial ?_
        refine ww_sub (L := [(0, .inr (.inr (.inl (some (19, 0))))), (3, .inl x), (6, .inl (z + 1))]) ⟨rfl, rfl, rfl, trivial⟩ rfl rfl ?_
        exact (ih _ (by omega)) x (z + 1) m11 rfl (zB_mono hGm11 (by omega)) hFm11 (by omega)
set_option maxRecDepth 8000 in
theorem zs92_l22 {sc : xSc} {n : Nat × Nat} {m0 : wm} {c : Int} (hc : 0 ≤ c ∧ c ≤ 980000) (s : Nat) (hG : zB c m0) (h0 : s < 101) : ∀ (d : Nat), ∀  (m : wm), 0 = d → zB c m → zfr (fun k i j => (k = 22) ∨ (k = 23) ∨ (k = 24) ∨ (k = 25) ∨ (k = 1 ∧ 101 ≤ i ∧ i < 171 ∧ j = 1) ∨ (k = 2 ∧ 101 ≤ i ∧ i < 171) ∨ (26 ≤ k ∧ k ≤ 33 ∧ i < 10) ∨ (k = 1 ∧ i = 2 ∧ j = 1) ∨ (k = 2 ∧ i = 2) ∨ (k = 16) ∨ (k = 17) ∨ (k = 18) ∨ (k = 19)) m0 m → (zBat m s 1 ≤ 1 ∧ zBat m s 4 ≤ 6 ∧ zBat m s 5 ≤ 1) →  wW (zK sc) zM92 22 [(0, .inr (.inr (.inl (some (19, 0))))), (1, .inr (.inr (.inl (some (1, s)))))] [] n m (wr (fun vv n1 m1 => ∃ r : Int, vv = some (.inl r) ∧ n = n1 ∧ zB (c + 4) m1 ∧ zfr (fun k i j => (k = 22) ∨ (k = 23) ∨ (k = 24) ∨ (k = 25) ∨ (k = 1 ∧ 101 ≤ i ∧ i < 171 ∧ j = 1) ∨ (k = 2 ∧ 101 ≤ i ∧ i < 171) ∨ (26 ≤ k ∧ k ≤ 33 ∧ i < 10) ∨ (k = 1 ∧ i = 2 ∧ j = 1) ∨ (k = 2 ∧ i = 2) ∨ (k = 16) ∨ (k = 17) ∨ (k = 18) ∨ (k = 19)) m0 m1 ∧ (0 ≤ r ∧ r ≤ 6))) := by
  intro d
  induction d using Nat.strongRecOn with
  | ind d ih =>
    intro  m hd hGm hFm hi
    have zs1 := zBat_rg hGm s 1
    have zs4 := zBat_rg hGm s 4
    have zs5 := zBat_rg hGm s 5
    refine ww_go 2 (pc' := 24) (L' := [(0, .inr (.inr (.inl (some (19, 0))))), (1, .inr (.inr (.inl (some (1, s)))))]) (st' := [.inl 1, .inr (.inr (.inl (some (1, s))))]) (m' := m) (o := none) rfl trivial ?_
    refine ww_call (vs := [.inr (.inr (.inl (some (1, s)))), .inl 1]) (r := []) (p := s < 171) rfl rfl rfl rfl (show s < 171 from by omega) (zs28 (c := c) (by omega) 1 s hGm (by omega)) ?_
    rintro _ _ _ ⟨r1, rfl, rfl, rfl, hr2⟩
    show wW (zK sc) zM92 27 [(0, .inr (.inr (.inl (some (19, 0))))), (1, .inr (.inr (.inl (some (1, s)))))] [.inl r1] _ _ _
    refine ww_go 6 (pc' := 33) (L' := [(3, .inl r1), (0, .inr (.inr (.inl (some (19, 0))))), (1, .inr (.inr (.inl (some (1, s)))))]) (st' := [.inl 2, .inl 2, .inr (.inr (.inl (some (1, s)))), .inl r1, .inr (.inr (.inl (some (19, 0))))]) (m' := m) (o := none) rfl trivial ?_
    refine ww_call (vs := [.inr (.inr (.inl (some (1, s)))), .inl 2, .inl 2]) (r := [.inl r1, .inr (.inr (.inl (some (19, 0))))]) (p := s < 171) rfl rfl rfl rfl (show s < 171 from by omega) (zs36 (c := c) (by omega) 2 2 s hGm (by omega)) ?_
    rintro _ _ _ ⟨r3, rfl, rfl, rfl, hr4⟩
    show wW (zK sc) zM92 36 [(3, .inl r1), (0, .inr (.inr (.inl (some (19, 0))))), (1, .inr (.inr (.inl (some (1, s)))))] [.inr (.inl r3), .inl r1, .inr (.inr (.inl (some (19, 0))))] _ _ _
    have t5 := wl2i_rg r3
    refine ww_go 1 (pc' := 37) (L' := [(3, .inl r1), (0, .inr (.inr (.inl (some (19, 0))))), (1, .inr (.inr (.inl (some (1, s)))))]) (st' := [.inl (wl2i r3), .inl r1, .inr (.inr (.inl (some (19, 0))))]) (m' := m) (o := none) rfl trivial ?_
    refine ww_call (vs := [.inr (.inr (.inl (some (19, 0)))), .inl r1, .inl (wl2i r3)]) (r := []) (p := 0 < 1) rfl rfl rfl rfl (show 0 < 1 from by omega) (zs79 (c := c) (by omega) r1 (wl2i r3) hGm (by omega)) ?_
    rintro _ _ _ ⟨r6, rfl, rfl, rfl, hr7⟩
    rcases hr7 with rfl | ⟨e8, rfl, hr9⟩
    · show wW (zK sc) zM92 40 [(3, .inl r1), (0, .inr (.inr (.inl (some (19, 0))))), (1, .inr (.inr (.inl (some (1, s)))))] [.inr (.inr (.inl none))] _ _ _
      refine ww_go 3 (pc' := 44) (L' := [(4, .inr (.inr (.inl none))), (3, .inl r1), (0, .inr (.inr (.inl (some (19, 0))))), (1, .inr (.inr (.inl (some (1, s)))))]) (st' := [.inl 4, .inr (.inr (.inl (some (1, s))))]) (m' := m) (o := none) rfl trivial ?_
      refine ww_call (vs := [.inr (.inr (.inl (some (1, s)))), .inl 4]) (r := []) (p := s < 171) rfl rfl rfl rfl (show s < 171 from by omega) (zs28 (c := c) (by omega) 4 s hGm (by omega)) ?_
      rintro _ _ _ ⟨r10, rfl, rfl, rfl, hr11⟩
      show wW (zK sc) zM92 47 [(4, .inr (.inr (.inl none))), (3, .inl r1), (0, .inr (.inr (.inl (some (19, 0))))), (1, .inr (.inr (.inl (some (1, s)))))] [.inl r10] _ _ _
      refine ww_go 2 (pc' := 51) (L' := [(5, .inl r10), (4, .inr (.inr (.inl none))), (3, .inl r1), (0, .inr (.inr (.inl (some (19, 0))))), (1, .inr (.inr (.inl (some (1, s)))))]) (st' := [.inr (.inr (.inl none))]) (m' := m) (o := none) rfl trivial ?_
      refine ww_nu (t := 114) rfl rfl (fun h => ?_) (fun zz9 h => by cases h)
      show wW (zK sc) zM92 114 [(5, .inl r10), (4, .inr (.inr (.inl none))), (3, .inl r1), (0, .inr (.inr (.inl (some (19, 0))))), (1, .inr (.inr (.inl (some (1, s)))))] [] _ _ _
      refine ww_go 1 (pc' := 115) (L' := [(5, .inl r10), (4, .inr (.inr (.inl none))), (3, .inl r1), (0, .inr (.inr (.inl (some (19, 0))))), (1, .inr (.inr (.inl (some (1, s)))))]) (st' := [.inl 0]) (m' := m) (o := none) rfl trivial ?_
      exact ww_rI rfl rfl ⟨_, rfl, rfl, zB_mono hGm (by omega), hFm, by omega⟩
    · show wW (zK sc) zM92 40 [(3, .inl r1), (0, .inr (.inr (.inl (some (19, 0))))), (1, .inr (.inr (.inl (some (1, s)))))] [.inr (.inr (.inl (some (26, e8))))] _ _ _
      refine ww_go 3 (pc' := 44) (L' := [(4, .inr (.inr (.inl (some (26, e8))))), (3, .inl r1), (0, .inr (.inr (.inl (some (19, 0))))), (1, .inr (.inr (.inl (some (1, s)))))]) (st' := [.inl 4, .inr (.inr (.inl (some (1, s))))]) (m' := m) (o := none) rfl trivial ?_
      refine ww_call (vs := [.inr (.inr (.inl (some (1, s)))), .inl 4]) (r := []) (p := s < 171) rfl rfl rfl rfl (show s < 171 from by omega) (zs28 (c := c) (by omega) 4 s hGm (by omega)) ?_
      rintro _ _ _ ⟨r12, rfl, rfl, rfl, hr13⟩
      show wW (zK sc) zM92 47 [(4, .inr (.inr (.inl (some (26, e8))))), (3, .inl r1), (0, .inr (.inr (.inl (some (19, 0))))), (1, .inr (.inr (.inl (some (1, s)))))] [.inl r12] _ _ _
      refine ww_go 2 (pc' := 51) (L' := [(5, .inl r12), (4, .inr (.inr (.inl (some (26, e8))))), (3, .inl r1), (0, .inr (.inr (.inl (some (19, 0))))), (1, .inr (.inr (.inl (some (1, s)))))]) (st' := [.inr (.inr (.inl (some (26, e8))))]) (m' := m) (o := none) rfl trivial ?_
      refine ww_nu (t := 114) rfl rfl (fun h => by cases h) (fun zz9 h => ?_)
      show wW (zK sc) zM92 54 [(5, .inl r12), (4, .inr (.inr (.inl (some (26, e8))))), (3, .inl r1), (0, .inr (.inr (.inl (some (19, 0))))), (1, .inr (.inr (.inl (some (1, s)))))] [] _ _ _
      refine ww_go 4 (pc' := 59) (L' := [(5, .inl r12), (4, .inr (.inr (.inl (some (26, e8))))), (3, .inl r1), (0, .inr (.inr (.inl (some (19, 0))))), (1, .inr (.inr (.inl (some (1, s)))))]) (st' := [.inr (.inr (.inl (some (1, s)))), .inl r1, .inr (.inr (.inl (some (26, e8)))), .inr (.inr (.inl (some (19, 0))))]) (m' := m) (o := none) rfl trivial ?_
      refine ww_call (vs := [.inr (.inr (.inl (some (19, 0)))), .inr (.inr (.inl (some (26, e8)))), .inl r1, .inr (.inr (.inl (some (1, s))))]) (r := []) (p := 0 < 1) rfl rfl rfl rfl (show 0 < 1 from by omega) (zs86 (c := c) (by omega) r1 e8 s hGm (by omega)) ?_
      rintro _ _ m16 ⟨r14, rfl, rfl, hGm16, hEm16, hr15⟩
      have hFm16 : zfr (fun k i j => (k = 22) ∨ (k = 23) ∨ (k = 24) ∨ (k = 25) ∨ (k = 1 ∧ 101 ≤ i ∧ i < 171 ∧ j = 1) ∨ (k = 2 ∧ 101 ≤ i ∧ i < 171) ∨ (26 ≤ k ∧ k ≤ 33 ∧ i < 10) ∨ (k = 1 ∧ i = 2 ∧ j = 1) ∨ (k = 2 ∧ i = 2) ∨ (k = 16) ∨ (k = 17) ∨ (k = 18) ∨ (k = 19)) m0 m16 := zfr_tr hFm hEm16 (fun k i j z => Or.elim z (fun z => Or.inl z) (fun z => Or.elim z (fun z => Or.inr (Or.inl z)) (fun z => Or.elim z (fun z => Or.inr (Or.inr (Or.inl z))) (fun z => Or.elim z (fun z => Or.inr (Or.inr (Or.inr (Or.inl z)))) (fun z => Or.elim z (fun z => Or.inr (Or.inr (Or.inr (Or.inr (Or.inl z))))) (fun z => Or.elim z (fun z => Or.inr (Or.inr (Or.inr (Or.inr (Or.inr (Or.inl z)))))) (fun z => Or.inr (Or.inr (Or.inr (Or.inr (Or.inr (Or.inr (Or.inl z)))))))))))))
      show wW (zK sc) zM92 62 [(5, .inl r12), (4, .inr (.inr (.inl (some (26, e8))))), (3, .inl r1), (0, .inr (.inr (.inl (some (19, 0))))), (1, .inr (.inr (.inl (some (1, s)))))] [.inl r14] _ _ _
      refine ww_if (t := 114) rfl rfl (by omega) (fun (h17 : r14 = 0) => ?_) (fun (h17 : ¬ (r14 = 0)) => ?_)
      · show wW (zK sc) zM92 114 [(5, .inl r12), (4, .inr (.inr (.inl (some (26, e8))))), (3, .inl r1), (0, .inr (.inr (.inl (some (19, 0))))), (1, .inr (.inr (.inl (some (1, s)))))] [] _ _ _
        refine ww_go 1 (pc' := 115) (L' := [(5, .inl r12), (4, .inr (.inr (.inl (some (26, e8))))), (3, .inl r1), (0, .inr (.inr (.inl (some (19, 0))))), (1, .inr (.inr (.inl (some (1, s)))))]) (st' := [.inl 0]) (m' := m16) (o := none) rfl trivial ?_
        exact ww_rI rfl rfl ⟨_, rfl, rfl, zB_mono hGm16 (by omega), hFm16, by omega⟩
      · show wW (zK sc) zM92 65 [(5, .inl r12), (4, .inr (.inr (.inl (some (26, e8))))), (3, .inl r1), (0, .inr (.inr (.inl (some (19, 0))))), (1, .inr (.inr (.inl (some (1, s)))))] [] _ _ _
        refine ww_go 2 (pc' := 69) (L' := [(5, .inl r12), (4, .inr (.inr (.inl (some (26, e8))))), (3, .inl r1), (0, .inr (.inr (.inl (some (19, 0))))), (1, .inr (.inr (.inl (some (1, s)))))]) (st' := [.inl r12, .inr (.inr (.inl (some (26, e8))))]) (m' := m16) (o := none) rfl trivial ?_
        refine ww_call (vs := [.inr (.inr (.inl (some (26, e8)))), .inl r12]) (r := []) (p := e8 < 10) rfl rfl rfl rfl (show e8 < 10 from by omega) (zs148 (c := c) (by omega) r12 e8 hGm16 (by omega)) ?_
        rintro _ _ _ ⟨r18, rfl, rfl, rfl, hr19⟩
        show wW (zK sc) zM92 72 [(5, .inl r12), (4, .inr (.inr (.inl (some (26, e8))))), (3, .inl r1), (0, .inr (.inr (.inl (some (19, 0))))), (1, .inr (.inr (.inl (some (1, s)))))] [.inl r18] _ _ _
        refine ww_if (t := 114) rfl rfl (by omega) (fun (h20 : r18 = 0) => ?_) (fun (h20 : ¬ (r18 = 0)) => ?_)
        · show wW (zK sc) zM92 114 [(5, .inl r12), (4, .inr (.inr (.inl (some (26, e8))))), (3, .inl r1), (0, .inr (.inr (.inl (some (19, 0))))), (1, .inr (.inr (.inl (some (1, s)))))] [] _ _ _
          refine ww_go 1 (pc' := 115) (L' := [(5, .inl r12), (4, .inr (.inr (.inl (some (26, e8))))), (3, .inl r1), (0, .inr (.inr (.inl (some (19, 0))))), (1, .inr (.inr (.inl (some (1, s)))))]) (st' := [.inl 0]) (m' := m16) (o := none) rfl trivial ?_
          exact ww_rI rfl rfl ⟨_, rfl, rfl, zB_mono hGm16 (by omega), hFm16, by omega⟩
        · show wW (zK sc) zM92 75 [(5, .inl r12), (4, .inr (.inr (.inl (some (26, e8))))), (3, .inl r1), (0, .inr (.inr (.inl (some (19, 0))))), (1, .inr (.inr (.inl (some (1, s)))))] [] _ _ _
          refine ww_go 4 (pc' := 81) (L' := [(5, .inl r12), (4, .inr (.inr (.inl (some (26, e8))))), (3, .inl r1), (0, .inr (.inr (.inl (some (19, 0))))), (1, .inr (.inr (.inl (some (1, s)))))]) (st' := [.inl r12, .inl r1, .inr (.inr (.inl (some (26, e8)))), .inr (.inr (.inl (some (19, 0))))]) (m' := m16) (o := none) rfl trivial ?_
          refine ww_call (vs := [.inr (.inr (.inl (some (19, 0)))), .inr (.inr (.inl (some (26, e8)))), .inl r1, .inl r12]) (r := []) (p := 0 < 1) rfl rfl rfl rfl (show 0 < 1 from by omega) (zs93 (c := c) (by omega) r1 r12 e8 hGm16 (by omega)) ?_
          rintro _ _ m23 ⟨rfl, rfl, hGm23, hEm23, hr22⟩
          have hFm23 : zfr (fun k i j => (k = 22) ∨ (k = 23) ∨ (k = 24) ∨ (k = 25) ∨ (k = 1 ∧ 101 ≤ i ∧ i < 171 ∧ j = 1) ∨ (k = 2 ∧ 101 ≤ i ∧ i < 171) ∨ (26 ≤ k ∧ k ≤ 33 ∧ i < 10) ∨ (k = 1 ∧ i = 2 ∧ j = 1) ∨ (k = 2 ∧ i = 2) ∨ (k = 16) ∨ (k = 17) ∨ (k = 18) ∨ (k = 19)) m0 m23 := zfr_tr hFm16 hEm23 (fun k i j z => Or.elim z (fun z => Or.inl z) (fun z => Or.elim z (fun z => Or.inr (Or.inl z)) (fun z => Or.elim z (fun z => Or.inr (Or.inr (Or.inl z))) (fun z => Or.elim z (fun z => Or.inr (Or.inr (Or.inr (Or.inl z)))) (fun z => Or.elim z (fun z => Or.inr (Or.inr (Or.inr (Or.inr (Or.inl z))))) (fun z => Or.elim z (fun z => Or.inr (Or.inr (Or.inr (Or.inr (Or.inr (Or.inl z)))))) (fun z => Or.inr (Or.inr (Or.inr (Or.inr (Or.inr (Or.inr (Or.inl z)))))))))))))
          show wW (zK sc) zM92 84 [(5, .inl r12), (4, .inr (.inr (.inl (some (26, e8))))), (3, .inl r1), (0, .inr (.inr (.inl (some (19, 0))))), (1, .inr (.inr (.inl (some (1, s)))))] [] _ _ _
          refine ww_go 2 (pc' := 86) (L' := [(5, .inl r12), (4, .inr (.inr (.inl (some (26, e8))))), (3, .inl r1), (0, .inr (.inr (.inl (some (19, 0))))), (1, .inr (.inr (.inl (some (1, s)))))]) (st' := [.inl r1, .inr (.inr (.inl (some (19, 0))))]) (m' := m23) (o := none) rfl trivial ?_
          refine ww_call (vs := [.inr (.inr (.inl (some (19, 0)))), .inl r1]) (r := []) (p := 0 < 1) rfl rfl rfl rfl (show 0 < 1 from by omega) (zs83 (c := c) (by omega) r1 hGm23 (by omega)) ?_
          rintro _ _ m26 ⟨rfl, rfl, hGm26, hEm26, hr25⟩
          have hFm26 : zfr (fun k i j => (k = 22) ∨ (k = 23) ∨ (k = 24) ∨ (k = 25) ∨ (k = 1 ∧ 101 ≤ i ∧ i < 171 ∧ j = 1) ∨ (k = 2 ∧ 101 ≤ i ∧ i < 171) ∨ (26 ≤ k ∧ k ≤ 33 ∧ i < 10) ∨ (k = 1 ∧ i = 2 ∧ j = 1) ∨ (k = 2 ∧ i = 2) ∨ (k = 16) ∨ (k = 17) ∨ (k = 18) ∨ (k = 19)) m0 m26 := zfr_tr hFm23 hEm26 (fun k i j z => Or.elim z (fun z => Or.inl z) (fun z => Or.elim z (fun z => Or.inr (Or.inl z)) (fun z => Or.elim z (fun z => Or.inr (Or.inr (Or.inl z))) (fun z => Or.elim z (fun z => Or.inr (Or.inr (Or.inr (Or.inl z)))) (fun z => Or.elim z (fun z => Or.inr (Or.inr (Or.inr (Or.inr (Or.inl z))))) (fun z => Or.elim z (fun z => Or.inr (Or.inr (Or.inr (Or.inr (Or.inr (Or.inl z)))))) (fun z => Or.inr (Or.inr (Or.inr (Or.inr (Or.inr (Or.inr (Or.inl z)))))))))))))
          show wW (zK sc) zM92 89 [(5, .inl r12), (4, .inr (.inr (.inl (some (26, e8))))), (3, .inl r1), (0, .inr (.inr (.inl (some (19, 0))))), (1, .inr (.inr (.inl (some (1, s)))))] [] _ _ _
          refine ww_go 2 (pc' := 92) (L' := [(6, .inl 0), (5, .inl r12), (4, .inr (.inr (.inl (some (26, e8))))), (3, .inl r1), (0, .inr (.inr (.inl (some (19, 0))))), (1, .inr (.inr (.inl (some (1, s)))))]) (st' := []) (m' := m26) (o := none) rfl trivial ?_
          refine ww_sub (L := [(0, .inr (.inr (.inl (some (19, 0))))), (3, .inl r1), (6, .inl 0)]) ⟨rfl, rfl, rfl, trivial⟩ rfl rfl ?_
          exact (zs92_l92 hc s hG h0 _) r1 0 m26 rfl (zB_mono hGm26 (by omega)) hFm26 (by omega)
set_option maxRecDepth 8000 in
/-- Receiver.listen -/
theorem zs92 {sc : xSc} {n : Nat × Nat} {m0 : wm} {c : Int} (hc : 0 ≤ c ∧ c ≤ 980000) (s : Nat) (hG : zB c m0) (h0 : s < 101) : wX (zK sc) 92 [.inr (.inr (.inl (some (19, 0)))), .inr (.inr (.inl (some (1, s))))] n m0 (wr (fun vv n1 m1 => ∃ r : Int, vv = some (.inl r) ∧ n = n1 ∧ zB (c + 4) m1 ∧ zfr (fun k i j => (k = 22) ∨ (k = 23) ∨ (k = 24) ∨ (k = 25) ∨ (k = 1 ∧ 101 ≤ i ∧ i < 171 ∧ j = 1) ∨ (k = 2 ∧ 101 ≤ i ∧ i < 171) ∨ (26 ≤ k ∧ k ≤ 33 ∧ i < 10) ∨ (k = 1 ∧ i = 2 ∧ j = 1) ∨ (k = 2 ∧ i = 2) ∨ (k = 16) ∨ (k = 17) ∨ (k = 18) ∨ (k = 19)) m0 m1 ∧ (0 ≤ r ∧ r ≤ 6))) := by
  refine wX_of (N := zM92) rfl (Nat.le_of_ble_eq_true rfl) ?_
  show wW (zK sc) zM92 0 [(0, .inr (.inr (.inl (some (19, 0))))), (1, .inr (.inr (.inl (some (1, s)))))] [] n m0 _
  have hF : zfr (fun k i j => (k = 22) ∨ (k = 23) ∨ (k = 24) ∨ (k = 25) ∨ (k = 1 ∧ 101 ≤ i ∧ i < 171 ∧ j = 1) ∨ (k = 2 ∧ 101 ≤ i ∧ i < 171) ∨ (26 ≤ k ∧ k ≤ 33 ∧ i < 10) ∨ (k = 1 ∧ i = 2 ∧ j = 1) ∨ (k = 2 ∧ i = 2) ∨ (k = 16) ∨ (k = 17) ∨ (k = 18) ∨ (k = 19)) m0 m0 := zfr_rf
  refine ww_go 2 (pc' := 2) (L' := [(0, .inr (.inr (.inl (some (19, 0))))), (1, .inr (.inr (.inl (some (1, s)))))]) (st' := [.inr (.inr (.inl (some (1, s)))), .inr (.inr (.inl (some (19, 0))))]) (m' := m0) (o := none) rfl trivial ?_
  refine ww_call (vs := [.inr (.inr (.inl (some (19, 0)))), .inr (.inr (.inl (some (1, s))))]) (r := []) (p := 0 < 1) rfl rfl rfl rfl (show 0 < 1 from by omega) (zs103 (c := c) (by omega) s hG (by omega)) ?_
  rintro _ _ m3 ⟨r1, rfl, rfl, hGm3, hEm3, hr2⟩
  have hFm3 : zfr (fun k i j => (k = 22) ∨ (k = 23) ∨ (k = 24) ∨ (k = 25) ∨ (k = 1 ∧ 101 ≤ i ∧ i < 171 ∧ j = 1) ∨ (k = 2 ∧ 101 ≤ i ∧ i < 171) ∨ (26 ≤ k ∧ k ≤ 33 ∧ i < 10) ∨ (k = 1 ∧ i = 2 ∧ j = 1) ∨ (k = 2 ∧ i = 2) ∨ (k = 16) ∨ (k = 17) ∨ (k = 18) ∨ (k = 19)) m0 m3 := zfr_tr hF hEm3 (fun k i j z => Or.elim z (fun z => Or.inl z) (fun z => Or.elim z (fun z => Or.inr (Or.inl z)) (fun z => Or.elim z (fun z => Or.inr (Or.inr (Or.inl z))) (fun z => Or.elim z (fun z => Or.inr (Or.inr (Or.inr (Or.inl z)))) (fun z => Or.elim z (fun z => Or.inr (Or.inr (Or.inr (Or.inr (Or.inl z))))) (fun z => Or.elim z (fun z => Or.inr (Or.inr (Or.inr (Or.inr (Or.inr (Or.inl z)))))) (fun z => Or.elim z (fun z => Or.inr (Or.inr (Or.inr (Or.inr (Or.inr (Or.inr (Or.inl z))))))) (fun z => Or.inr (Or.inr (Or.inr (Or.inr (Or.inr (Or.inr (Or.inr (Or.inr (Or.inr (Or.inr (Or.inr (Or.inr (z))))))))))))))))))))
  show wW (zK sc) zM92 5 [(0, .inr (.inr (.inl (some (19, 0))))), (1, .inr (.inr (.inl (some (1, s)))))] [.inl r1] _ _ _
  refine ww_go 2 (pc' := 7) (L' := [(2, .inl r1), (0, .inr (.inr (.inl (some (19, 0))))), (1, .inr (.inr (.inl (some (1, s)))))]) (st' := [.inl r1]) (m' := m3) (o := none) rfl trivial ?_
  refine ww_if (t := 22) rfl rfl (by omega) (fun (h4 : r1 = 0) => ?_) (fun (h4 : ¬ (r1 = 0)) => ?_)
  · show wW (zK sc) zM92 22 [(2, .inl r1), (0, .inr (.inr (.inl (some (19, 0))))), (1, .inr (.inr (.inl (some (1, s)))))] [] _ _ _
    refine ww_sub (L := [(0, .inr (.inr (.inl (some (19, 0))))), (1, .inr (.inr (.inl (some (1, s)))))]) ⟨rfl, rfl, trivial⟩ rfl rfl ?_
    exact (zs92_l22 hc s hG h0 _)  m3 rfl (zB_mono hGm3 (by omega)) hFm3 (by omega)
  · show wW (zK sc) zM92 10 [(2, .inl r1), (0, .inr (.inr (.inl (some (19, 0))))), (1, .inr (.inr (.inl (some (1, s)))))] [] _ _ _
    have b5 : 0 ≤ m3.1 19 0 6 ∧ m3.1 19 0 6 ≤ c := hGm3.1 19 _ rfl _ _
    refine ww_go 6 (pc' := 20) (L' := [(2, .inl r1), (0, .inr (.inr (.inl (some (19, 0))))), (1, .inr (.inr (.inl (some (1, s)))))]) (st' := []) (m' := wuI m3 19 0 6 ((m3.1 19 0 6) + 1)) (o := some ((0 < 1) ∧ (0 < 1))) rfl (show (0 < 1) ∧ (0 < 1) from by omega) ?_
    obtain ⟨m6, hm6⟩ : ∃ zq9 : wm, zq9 = wuI m3 19 0 6 ((m3.1 19 0 6) + 1) := ⟨_, rfl⟩
    rw [← hm6]
    have hXm6 := zB_mono (c' := (c + 1)) hGm3 (by omega)
    have hGm6 : zB (c + 1) m6 := by rw [hm6]; exact zB_wI rfl (show 0 ≤ (m3.1 19 0 6) + 1 ∧ (m3.1 19 0 6) + 1 ≤ (c + 1) from by omega) hXm6
    have hFm6 : zfr (fun k i j => (k = 22) ∨ (k = 23) ∨ (k = 24) ∨ (k = 25) ∨ (k = 1 ∧ 101 ≤ i ∧ i < 171 ∧ j = 1) ∨ (k = 2 ∧ 101 ≤ i ∧ i < 171) ∨ (26 ≤ k ∧ k ≤ 33 ∧ i < 10) ∨ (k = 1 ∧ i = 2 ∧ j = 1) ∨ (k = 2 ∧ i = 2) ∨ (k = 16) ∨ (k = 17) ∨ (k = 18) ∨ (k = 19)) m0 m6 := by rw [hm6]; exact zfr_wI hFm3 (show (19 = 22) ∨ (19 = 23) ∨ (19 = 24) ∨ (19 = 25) ∨ (19 = 1 ∧ 101 ≤ 0 ∧ 0 < 171 ∧ 6 = 1) ∨ (19 = 2 ∧ 101 ≤ 0 ∧ 0 < 171) ∨ (26 ≤ 19 ∧ 19 ≤ 33 ∧ 0 < 10) ∨ (19 = 1 ∧ 0 = 2 ∧ 6 = 1) ∨ (19 = 2 ∧ 0 = 2) ∨ (19 = 16) ∨ (19 = 17) ∨ (19 = 18) ∨ (19 = 19) from Or.inr (Or.inr (Or.inr (Or.inr (Or.inr (Or.inr (Or.inr (Or.inr (Or.inr (Or.inr (Or.inr (Or.inr (rfl)))))))))))))
    have s7 : m6.1 19 0 6 = (m3.1 19 0 6) + 1 := by rw [hm6]; exact wuI_self
    refine ww_go 1 (pc' := 21) (L' := [(2, .inl r1), (0, .inr (.inr (.inl (some (19, 0))))), (1, .inr (.inr (.inl (some (1, s)))))]) (st' := [.inl r1]) (m' := m6) (o := none) rfl trivial ?_
    exact ww_rI rfl rfl ⟨_, rfl, rfl, zB_mono hGm6 (by omega), hFm6, by omega⟩
