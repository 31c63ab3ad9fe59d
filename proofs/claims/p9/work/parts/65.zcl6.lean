set_option maxRecDepth 8000 in
/-- Receiver.dropItemRows -/
theorem zs77 {sc : xSc} {n : Nat × Nat} {m0 : wm} {c : Int} (hc : 0 ≤ c ∧ c ≤ 1000000) (x : Int) (y : Int) (t : Nat) (hG : zB c m0) (h0 : t < 10 ∧ 0 ≤ x ∧ x ≤ 1 ∧ 0 ≤ y ∧ y ≤ 6) : wX (zK sc) 77 [.inr (.inr (.inl (some (19, 0)))), .inr (.inr (.inl (some (26, t)))), .inl x, .inl y] n m0 (wr (fun vv n1 m1 => vv = none ∧ n = n1 ∧ zB c m1 ∧ zfr (fun k i j => (k = 22) ∨ (k = 23) ∨ (k = 24) ∨ (k = 25)) m0 m1 ∧ True)) := by
  refine wX_of (N := zM77) rfl (Nat.le_of_ble_eq_true rfl) ?_
  show wW (zK sc) zM77 0 [(0, .inr (.inr (.inl (some (19, 0))))), (1, .inr (.inr (.inl (some (26, t))))), (2, .inl x), (3, .inl y)] [] n m0 _
  have hF : zfr (fun k i j => (k = 22) ∨ (k = 23) ∨ (k = 24) ∨ (k = 25)) m0 m0 := zfr_rf
  refine ww_go 2 (pc' := 2) (L' := [(0, .inr (.inr (.inl (some (19, 0))))), (1, .inr (.inr (.inl (some (26, t))))), (2, .inl x), (3, .inl y)]) (st' := [.inr (.inr (.inl (some (26, t)))), .inl x]) (m' := m0) (o := none) rfl trivial ?_
  refine ww_call (vs := [.inr (.inr (.inl (some (26, t))))]) (r := [.inl x]) (p := t < 10) rfl rfl rfl rfl (show t < 10 from by omega) (zs155 (c := c) (by omega) t hG (by omega)) ?_
  rintro _ _ _ ⟨r1, rfl, rfl, rfl, hr2⟩
  show wW (zK sc) zM77 5 [(0, .inr (.inr (.inl (some (19, 0))))), (1, .inr (.inr (.inl (some (26, t))))), (2, .inl x), (3, .inl y)] [.inl r1, .inl x] _ _ _
  refine ww_call (vs := [.inl x, .inl r1]) (r := []) (p := True) rfl rfl rfl rfl trivial (zs113 x r1 (by omega)) ?_
  rintro _ _ _ ⟨r3, rfl, rfl, rfl, hr4⟩
  show wW (zK sc) zM77 8 [(0, .inr (.inr (.inl (some (19, 0))))), (1, .inr (.inr (.inl (some (26, t))))), (2, .inl x), (3, .inl y)] [.inl r3] _ _ _
  refine ww_go 6 (pc' := 18) (L' := [(4, .inl r3), (0, .inr (.inr (.inl (some (19, 0))))), (1, .inr (.inr (.inl (some (26, t))))), (2, .inl x), (3, .inl y)]) (st' := [.inl 0, .inl y, .inl r3, .inr (.inr (.inl (some (22, 0))))]) (m' := m0) (o := some ((0 < 1))) rfl (show (0 < 1) from by omega) ?_
  refine ww_call (vs := [.inl r3, .inl y, .inl 0]) (r := [.inr (.inr (.inl (some (22, 0))))]) (p := True) rfl rfl rfl rfl trivial (zs111 r3 y 0 (by omega)) ?_
  rintro _ _ _ ⟨r5, rfl, rfl, rfl, hr6⟩
  show wW (zK sc) zM77 21 [(4, .inl r3), (0, .inr (.inr (.inl (some (19, 0))))), (1, .inr (.inr (.inl (some (26, t))))), (2, .inl x), (3, .inl y)] [.inl r5, .inr (.inr (.inl (some (22, 0))))] _ _ _
  refine ww_go 3 (pc' := 25) (L' := [(4, .inl r3), (0, .inr (.inr (.inl (some (19, 0))))), (1, .inr (.inr (.inl (some (26, t))))), (2, .inl x), (3, .inl y)]) (st' := [.inl 1, .inl y, .inl r3, .inl r5, .inr (.inr (.inl (some (22, 0))))]) (m' := m0) (o := none) rfl trivial ?_
  refine ww_call (vs := [.inl r3, .inl y, .inl 1]) (r := [.inl r5, .inr (.inr (.inl (some (22, 0))))]) (p := True) rfl rfl rfl rfl trivial (zs111 r3 y 1 (by omega)) ?_
  rintro _ _ _ ⟨r7, rfl, rfl, rfl, hr8⟩
  show wW (zK sc) zM77 28 [(4, .inl r3), (0, .inr (.inr (.inl (some (19, 0))))), (1, .inr (.inr (.inl (some (26, t))))), (2, .inl x), (3, .inl y)] [.inl r7, .inl r5, .inr (.inr (.inl (some (22, 0))))] _ _ _
  refine ww_call (vs := [.inr (.inr (.inl (some (22, 0)))), .inl r5, .inl r7]) (r := []) (p := 0 < 1) rfl rfl rfl rfl (show 0 < 1 from by omega) (zs106 (c := c) (by omega) r5 r7 hG (by omega)) ?_
  rintro _ _ m11 ⟨rfl, rfl, hGm11, hEm11, hr10⟩
  have hFm11 : zfr (fun k i j => (k = 22) ∨ (k = 23) ∨ (k = 24) ∨ (k = 25)) m0 m11 := zfr_tr hF hEm11 (fun k i j z => Or.elim z (fun z => Or.inl z) (fun z => Or.elim z (fun z => Or.inr (Or.inl z)) (fun z => Or.elim z (fun z => Or.inr (Or.inr (Or.inl z))) (fun z => Or.inr (Or.inr (Or.inr (z)))))))
  show wW (zK sc) zM77 31 [(4, .inl r3), (0, .inr (.inr (.inl (some (19, 0))))), (1, .inr (.inr (.inl (some (26, t))))), (2, .inl x), (3, .inl y)] [] _ _ _
  exact ww_rV rfl rfl ⟨rfl, rfl, zB_mono hGm11 (by omega), hFm11, by trivial⟩
set_option maxRecDepth 8000 in
/-- Receiver.forgetItem -/
theorem zs80 {sc : xSc} {n : Nat × Nat} {m0 : wm} {c : Int} (hc : 0 ≤ c ∧ c ≤ 1000000) (x : Int) (y : Int) (t : Nat) (hG : zB c m0) (h0 : t < 10 ∧ 0 ≤ x ∧ x ≤ 1 ∧ 0 ≤ y ∧ y ≤ 6) : wX (zK sc) 80 [.inr (.inr (.inl (some (19, 0)))), .inr (.inr (.inl (some (26, t)))), .inl x, .inl y] n m0 (wr (fun vv n1 m1 => vv = none ∧ n = n1 ∧ zB c m1 ∧ zfr (fun k i j => (k = 22) ∨ (k = 23) ∨ (k = 24) ∨ (k = 25) ∨ (k = 1 ∧ 101 ≤ i ∧ i < 171 ∧ j = 1) ∨ (k = 2 ∧ 101 ≤ i ∧ i < 171) ∨ (26 ≤ k ∧ k ≤ 33 ∧ i < 10)) m0 m1 ∧ True)) := by
  refine wX_of (N := zM80) rfl (Nat.le_of_ble_eq_true rfl) ?_
  show wW (zK sc) zM80 0 [(0, .inr (.inr (.inl (some (19, 0))))), (1, .inr (.inr (.inl (some (26, t))))), (2, .inl x), (3, .inl y)] [] n m0 _
  have hF : zfr (fun k i j => (k = 22) ∨ (k = 23) ∨ (k = 24) ∨ (k = 25) ∨ (k = 1 ∧ 101 ≤ i ∧ i < 171 ∧ j = 1) ∨ (k = 2 ∧ 101 ≤ i ∧ i < 171) ∨ (26 ≤ k ∧ k ≤ 33 ∧ i < 10)) m0 m0 := zfr_rf
  refine ww_go 2 (pc' := 2) (L' := [(0, .inr (.inr (.inl (some (19, 0))))), (1, .inr (.inr (.inl (some (26, t))))), (2, .inl x), (3, .inl y)]) (st' := [.inl y, .inr (.inr (.inl (some (26, t))))]) (m' := m0) (o := none) rfl trivial ?_
  refine ww_call (vs := [.inr (.inr (.inl (some (26, t)))), .inl y]) (r := []) (p := t < 10) rfl rfl rfl rfl (show t < 10 from by omega) (zs139 (c := c) (by omega) y t hG (by omega)) ?_
  rintro _ _ m3 ⟨rfl, rfl, hGm3, hEm3, hr2⟩
  have hFm3 : zfr (fun k i j => (k = 22) ∨ (k = 23) ∨ (k = 24) ∨ (k = 25) ∨ (k = 1 ∧ 101 ≤ i ∧ i < 171 ∧ j = 1) ∨ (k = 2 ∧ 101 ≤ i ∧ i < 171) ∨ (26 ≤ k ∧ k ≤ 33 ∧ i < 10)) m0 m3 := zfr_tr hF hEm3 (fun k i j z => Or.elim z (fun z => Or.inr (Or.inr (Or.inr (Or.inr (Or.inl z))))) (fun z => Or.elim z (fun z => (show (k = 22) ∨ (k = 23) ∨ (k = 24) ∨ (k = 25) ∨ (k = 1 ∧ 101 ≤ i ∧ i < 171 ∧ j = 1) ∨ (k = 2 ∧ 101 ≤ i ∧ i < 171) ∨ (26 ≤ k ∧ k ≤ 33 ∧ i < 10) from by omega)) (fun z => Or.elim z (fun z => (show (k = 22) ∨ (k = 23) ∨ (k = 24) ∨ (k = 25) ∨ (k = 1 ∧ 101 ≤ i ∧ i < 171 ∧ j = 1) ∨ (k = 2 ∧ 101 ≤ i ∧ i < 171) ∨ (26 ≤ k ∧ k ≤ 33 ∧ i < 10) from by omega)) (fun z => (show (k = 22) ∨ (k = 23) ∨ (k = 24) ∨ (k = 25) ∨ (k = 1 ∧ 101 ≤ i ∧ i < 171 ∧ j = 1) ∨ (k = 2 ∧ 101 ≤ i ∧ i < 171) ∨ (26 ≤ k ∧ k ≤ 33 ∧ i < 10) from by omega)))))
  show wW (zK sc) zM80 5 [(0, .inr (.inr (.inl (some (19, 0))))), (1, .inr (.inr (.inl (some (26, t))))), (2, .inl x), (3, .inl y)] [] _ _ _
  refine ww_go 4 (pc' := 9) (L' := [(0, .inr (.inr (.inl (some (19, 0))))), (1, .inr (.inr (.inl (some (26, t))))), (2, .inl x), (3, .inl y)]) (st' := [.inl y, .inl x, .inr (.inr (.inl (some (26, t)))), .inr (.inr (.inl (some (19, 0))))]) (m' := m3) (o := none) rfl trivial ?_
  refine ww_call (vs := [.inr (.inr (.inl (some (19, 0)))), .inr (.inr (.inl (some (26, t)))), .inl x, .inl y]) (r := []) (p := 0 < 1) rfl rfl rfl rfl (show 0 < 1 from by omega) (zs77 (c := c) (by omega) x y t hGm3 (by omega)) ?_
  rintro _ _ m6 ⟨rfl, rfl, hGm6, hEm6, hr5⟩
  have hFm6 : zfr (fun k i j => (k = 22) ∨ (k = 23) ∨ (k = 24) ∨ (k = 25) ∨ (k = 1 ∧ 101 ≤ i ∧ i < 171 ∧ j = 1) ∨ (k = 2 ∧ 101 ≤ i ∧ i < 171) ∨ (26 ≤ k ∧ k ≤ 33 ∧ i < 10)) m0 m6 := zfr_tr hFm3 hEm6 (fun k i j z => Or.elim z (fun z => Or.inl z) (fun z => Or.elim z (fun z => Or.inr (Or.inl z)) (fun z => Or.elim z (fun z => Or.inr (Or.inr (Or.inl z))) (fun z => Or.inr (Or.inr (Or.inr (Or.inl z)))))))
  show wW (zK sc) zM80 12 [(0, .inr (.inr (.inl (some (19, 0))))), (1, .inr (.inr (.inl (some (26, t))))), (2, .inl x), (3, .inl y)] [] _ _ _
  exact ww_rV rfl rfl ⟨rfl, rfl, zB_mono hGm6 (by omega), hFm6, by trivial⟩
set_option maxRecDepth 8000 in
/-- Receiver.lookAtFile -/
theorem zs94 {sc : xSc} {n : Nat × Nat} {m0 : wm} {c : Int} (hc : 0 ≤ c ∧ c ≤ 1000000) (x : Int) (y : Int) (t : Nat) (hG : zB c m0) (h0 : t < 10 ∧ 0 ≤ x ∧ x ≤ 1 ∧ 0 ≤ y ∧ y ≤ 6) : wX (zK sc) 94 [.inr (.inr (.inl (some (19, 0)))), .inr (.inr (.inl (some (26, t)))), .inl x, .inl y] n m0 (wr (fun vv n1 m1 => vv = none ∧ n = n1 ∧ zB c m1 ∧ zfr (fun k i j => (k = 22) ∨ (k = 23) ∨ (k = 24) ∨ (k = 25) ∨ (k = 1 ∧ 101 ≤ i ∧ i < 171 ∧ j = 1) ∨ (k = 2 ∧ 101 ≤ i ∧ i < 171) ∨ (26 ≤ k ∧ k ≤ 33 ∧ i < 10)) m0 m1 ∧ True)) := by
  refine wX_of (N := zM94) rfl (Nat.le_of_ble_eq_true rfl) ?_
  show wW (zK sc) zM94 0 [(0, .inr (.inr (.inl (some (19, 0))))), (1, .inr (.inr (.inl (some (26, t))))), (2, .inl x), (3, .inl y)] [] n m0 _
  have hF : zfr (fun k i j => (k = 22) ∨ (k = 23) ∨ (k = 24) ∨ (k = 25) ∨ (k = 1 ∧ 101 ≤ i ∧ i < 171 ∧ j = 1) ∨ (k = 2 ∧ 101 ≤ i ∧ i < 171) ∨ (26 ≤ k ∧ k ≤ 33 ∧ i < 10)) m0 m0 := zfr_rf
  refine ww_go 2 (pc' := 2) (L' := [(0, .inr (.inr (.inl (some (19, 0))))), (1, .inr (.inr (.inl (some (26, t))))), (2, .inl x), (3, .inl y)]) (st' := [.inl y, .inr (.inr (.inl (some (26, t))))]) (m' := m0) (o := none) rfl trivial ?_
  refine ww_call (vs := [.inr (.inr (.inl (some (26, t)))), .inl y]) (r := []) (p := t < 10) rfl rfl rfl rfl (show t < 10 from by omega) (zs145 (c := c) (by omega) y t hG (by omega)) ?_
  rintro _ _ m3 ⟨r1, rfl, rfl, hGm3, hEm3, hr2⟩
  have hFm3 : zfr (fun k i j => (k = 22) ∨ (k = 23) ∨ (k = 24) ∨ (k = 25) ∨ (k = 1 ∧ 101 ≤ i ∧ i < 171 ∧ j = 1) ∨ (k = 2 ∧ 101 ≤ i ∧ i < 171) ∨ (26 ≤ k ∧ k ≤ 33 ∧ i < 10)) m0 m3 := zfr_tr hF hEm3 (fun k i j z => (show (k = 22) ∨ (k = 23) ∨ (k = 24) ∨ (k = 25) ∨ (k = 1 ∧ 101 ≤ i ∧ i < 171 ∧ j = 1) ∨ (k = 2 ∧ 101 ≤ i ∧ i < 171) ∨ (26 ≤ k ∧ k ≤ 33 ∧ i < 10) from by omega))
  show wW (zK sc) zM94 5 [(0, .inr (.inr (.inl (some (19, 0))))), (1, .inr (.inr (.inl (some (26, t))))), (2, .inl x), (3, .inl y)] [.inl r1] _ _ _
  refine ww_if (t := 15) rfl rfl (by omega) (fun (h4 : r1 ≠ 0) => ?_) (fun (h4 : ¬ (r1 ≠ 0)) => ?_)
  · show wW (zK sc) zM94 15 [(0, .inr (.inr (.inl (some (19, 0))))), (1, .inr (.inr (.inl (some (26, t))))), (2, .inl x), (3, .inl y)] [] _ _ _
    exact ww_rV rfl rfl ⟨rfl, rfl, zB_mono hGm3 (by omega), hFm3, by trivial⟩
  · show wW (zK sc) zM94 8 [(0, .inr (.inr (.inl (some (19, 0))))), (1, .inr (.inr (.inl (some (26, t))))), (2, .inl x), (3, .inl y)] [] _ _ _
    refine ww_go 4 (pc' := 12) (L' := [(0, .inr (.inr (.inl (some (19, 0))))), (1, .inr (.inr (.inl (some (26, t))))), (2, .inl x), (3, .inl y)]) (st' := [.inl y, .inl x, .inr (.inr (.inl (some (26, t)))), .inr (.inr (.inl (some (19, 0))))]) (m' := m3) (o := none) rfl trivial ?_
    refine ww_call (vs := [.inr (.inr (.inl (some (19, 0)))), .inr (.inr (.inl (some (26, t)))), .inl x, .inl y]) (r := []) (p := 0 < 1) rfl rfl rfl rfl (show 0 < 1 from by omega) (zs80 (c := c) (by omega) x y t hGm3 (by omega)) ?_
    rintro _ _ m7 ⟨rfl, rfl, hGm7, hEm7, hr6⟩
    have hFm7 : zfr (fun k i j => (k = 22) ∨ (k = 23) ∨ (k = 24) ∨ (k = 25) ∨ (k = 1 ∧ 101 ≤ i ∧ i < 171 ∧ j = 1) ∨ (k = 2 ∧ 101 ≤ i ∧ i < 171) ∨ (26 ≤ k ∧ k ≤ 33 ∧ i < 10)) m0 m7 := zfr_tr hFm3 hEm7 (fun k i j z => Or.elim z (fun z => Or.inl z) (fun z => Or.elim z (fun z => Or.inr (Or.inl z)) (fun z => Or.elim z (fun z => Or.inr (Or.inr (Or.inl z))) (fun z => Or.elim z (fun z => Or.inr (Or.inr (Or.inr (Or.inl z)))) (fun z => Or.elim z (fun z => Or.inr (Or.inr (Or.inr (Or.inr (Or.inl z))))) (fun z => Or.elim z (fun z => Or.inr (Or.inr (Or.inr (Or.inr (Or.inr (Or.inl z)))))) (fun z => Or.inr (Or.inr (Or.inr (Or.inr (Or.inr (Or.inr (z)))))))))))))
    show wW (zK sc) zM94 15 [(0, .inr (.inr (.inl (some (19, 0))))), (1, .inr (.inr (.inl (some (26, t))))), (2, .inl x), (3, .inl y)] [] _ _ _
    exact ww_rV rfl rfl ⟨rfl, rfl, zB_mono hGm7 (by omega), hFm7, by trivial⟩
set_option maxRecDepth 8000 in
theorem zs93_l37 {sc : xSc} {n : Nat × Nat} {m0 : wm} {c : Int} (hc : 0 ≤ c ∧ c ≤ 1000000) (x : Int) (y : Int) (t : Nat) (hG : zB c m0) (h0 : t < 10 ∧ 0 ≤ x ∧ x ≤ 1 ∧ 0 ≤ y ∧ y ≤ 6) : ∀ (d : Nat), ∀ (z : Int) (m : wm), (7 - z).toNat = d → zB c m → zfr (fun k i j => (k = 22) ∨ (k = 23) ∨ (k = 24) ∨ (k = 25) ∨ (k = 1 ∧ 101 ≤ i ∧ i < 171 ∧ j = 1) ∨ (k = 2 ∧ 101 ≤ i ∧ i < 171) ∨ (26 ≤ k ∧ k ≤ 33 ∧ i < 10)) m0 m → (1 ≤ z ∧ z ≤ 7) →  wW (zK sc) zM93 37 [(0, .inr (.inr (.inl (some (19, 0))))), (1, .inr (.inr (.inl (some (26, t))))), (2, .inl x), (4, .inl z)] [] n m (wr (fun vv n1 m1 => vv = none ∧ n = n1 ∧ zB c m1 ∧ zfr (fun k i j => (k = 22) ∨ (k = 23) ∨ (k = 24) ∨ (k = 25) ∨ (k = 1 ∧ 101 ≤ i ∧ i < 171 ∧ j = 1) ∨ (k = 2 ∧ 101 ≤ i ∧ i < 171) ∨ (26 ≤ k ∧ k ≤ 33 ∧ i < 10)) m0 m1 ∧ True)) := by
  intro d
  induction d using Nat.strongRecOn with
  | ind d ih =>
    intro z m hd hGm hFm hi
    refine ww_go 2 (pc' := 41) (L' := [(0, .inr (.inr (.inl (some (19, 0))))), (1, .inr (.inr (.inl (some (26, t))))), (2, .inl x), (4, .inl z)]) (st' := [.inl 7, .inl z]) (m' := m) (o := none) rfl trivial ?_
    refine ww_ic (t := 76) rfl rfl (by omega) (fun (h1 : 7 ≤ z) => ?_) (fun (h1 : ¬ (7 ≤ z)) => ?_)
    · show wW (zK sc) zM93 76 [(0, .inr (.inr (.inl (some (19, 0))))), (1, .inr (.inr (.inl (some (26, t))))), (2, .inl x), (4, .inl z)] [] _ _ _
      exact ww_rV rfl rfl ⟨rfl, rfl, zB_mono hGm (by omega), hFm, by trivial⟩
    · show wW (zK sc) zM93 44 [(0, .inr (.inr (.inl (some (19, 0))))), (1, .inr (.inr (.inl (some (26, t))))), (2, .inl x), (4, .inl z)] [] _ _ _
      refine ww_go 2 (pc' := 47) (L' := [(0, .inr (.inr (.inl (some (19, 0))))), (1, .inr (.inr (.inl (some (26, t))))), (2, .inl x), (4, .inl z)]) (st' := [.inr (.inr (.inl (some (26, t)))), .inl z]) (m' := m) (o := none) rfl trivial ?_
      refine ww_call (vs := [.inr (.inr (.inl (some (26, t))))]) (r := [.inl z]) (p := t < 10) rfl rfl rfl rfl (show t < 10 from by omega) (zs141 (c := c) (by omega) t hGm (by omega)) ?_
      rintro _ _ _ ⟨r2, rfl, rfl, rfl, hr3⟩
      show wW (zK sc) zM93 50 [(0, .inr (.inr (.inl (some (19, 0))))), (1, .inr (.inr (.inl (some (26, t))))), (2, .inl x), (4, .inl z)] [.inl r2, .inl z] _ _ _
      refine ww_ic (t := 62) rfl rfl (by omega) (fun (h4 : r2 < z) => ?_) (fun (h4 : ¬ (r2 < z)) => ?_)
      · show wW (zK sc) zM93 62 [(0, .inr (.inr (.inl (some (19, 0))))), (1, .inr (.inr (.inl (some (26, t))))), (2, .inl x), (4, .inl z)] [] _ _ _
        refine ww_go 4 (pc' := 67) (L' := [(0, .inr (.inr (.inl (some (19, 0))))), (1, .inr (.inr (.inl (some (26, t))))), (2, .inl x), (4, .inl z)]) (st' := [.inl z, .inl x, .inr (.inr (.inl (some (26, t)))), .inr (.inr (.inl (some (19, 0))))]) (m' := m) (o := none) rfl trivial ?_
        refine ww_call (vs := [.inr (.inr (.inl (some (19, 0)))), .inr (.inr (.inl (some (26, t)))), .inl x, .inl z]) (r := []) (p := 0 < 1) rfl rfl rfl rfl (show 0 < 1 from by omega) (zs94 (c := c) (by omega) x z t hGm (by omega)) ?_
        rintro _ _ m7 ⟨rfl, rfl, hGm7, hEm7, hr6⟩
        have hFm7 : zfr (fun k i j => (k = 22) ∨ (k = 23) ∨ (k = 24) ∨ (k = 25) ∨ (k = 1 ∧ 101 ≤ i ∧ i < 171 ∧ j = 1) ∨ (k = 2 ∧ 101 ≤ i ∧ i < 171) ∨ (26 ≤ k ∧ k ≤ 33 ∧ i < 10)) m0 m7 := zfr_tr hFm hEm7 (fun k i j z => Or.elim z (fun z => Or.inl z) (fun z => Or.elim z (fun z => Or.inr (Or.inl z)) (fun z => Or.elim z (fun z => Or.inr (Or.inr (Or.inl z))) (fun z => Or.elim z (fun z => Or.inr (Or.inr (Or.inr (Or.inl z)))) (fun z => Or.elim z (fun z => Or.inr (Or.inr (Or.inr (Or.inr (Or.inl z))))) (fun z => Or.elim z (fun z => Or.inr (Or.inr (Or.inr (Or.inr (Or.inr (Or.inl z)))))) (fun z => Or.inr (Or.inr (Or.inr (Or.inr (Or.inr (Or.inr (z)))))))))))))
        show wW (zK sc) zM93 70 [(0, .inr (.inr (.inl (some (19, 0))))), (1, .inr (.inr (.inl (some (26, t))))), (2, .inl x), (4, .inl z)] [] _ _ _
        refine ww_go 2 (pc' := 37) (L' := [(4, .inl (z + 1)), (0, .inr (.inr (.inl (some (19, 0))))), (1, .inr (.inr (.inl (some (26, t))))), (2, .inl x)]) (st' := []) (m' := m7) (o := none) rfl trivial ?_
        refine ww_sub (L := [(0, .inr (.inr (.inl (some (19, 0))))), (1, .inr (.inr (.inl (some (26, t))))), (2, .inl x), (4, .inl (z + 1))]) ⟨rfl, rfl, rfl, rfl, trivial⟩ rfl rfl ?_
        exact (ih _ (by omega)) (z + 1) m7 rfl (zB_mono hGm7 (by omega)) hFm7 (by omega)
      · show wW (zK sc) zM93 53 [(0, .inr (.inr (.inl (some (19, 0))))), (1, .inr (.inr (.inl (some (26, t))))), (2, .inl x), (4, .inl z)] [] _ _ _
        refine ww_go 2 (pc' := 56) (L' := [(0, .inr (.inr (.inl (some (19, 0))))), (1, .inr (.inr (.inl (some (26, t))))), (2, .inl x), (4, .inl z)]) (st' := [.inl z, .inr (.inr (.inl (some (26, t))))]) (m' := m) (o := none) rfl trivial ?_
        refine ww_call (vs := [.inr (.inr (.inl (some (26, t)))), .inl z]) (r := []) (p := t < 10) rfl rfl rfl rfl (show t < 10 from by omega) (zs148 (c := c) (by omega) z t hGm (by omega)) ?_
        rintro _ _ _ ⟨r8, rfl, rfl, rfl, hr9⟩
        show wW (zK sc) zM93 59 [(0, .inr (.inr (.inl (some (19, 0))))), (1, .inr (.inr (.inl (some (26, t))))), (2, .inl x), (4, .inl z)] [.inl r8] _ _ _
        refine ww_if (t := 70) rfl rfl (by omega) (fun (h10 : r8 = 0) => ?_) (fun (h10 : ¬ (r8 = 0)) => ?_)
        · show wW (zK sc) zM93 70 [(0, .inr (.inr (.inl (some (19, 0))))), (1, .inr (.inr (.inl (some (26, t))))), (2, .inl x), (4, .inl z)] [] _ _ _
          refine ww_go 2 (pc' := 37) (L' := [(4, .inl (z + 1)), (0, .inr (.inr (.inl (some (19, 0))))), (1, .inr (.inr (.inl (some (26, t))))), (2, .inl x)]) (st' := []) (m' := m) (o := none) rfl trivial ?_
          refine ww_sub (L := [(0, .inr (.inr (.inl (some (19, 0))))), (1, .inr (.inr (.inl (some (26, t))))), (2, .inl x), (4, .inl (z + 1))]) ⟨rfl, rfl, rfl, rfl, trivial⟩ rfl rfl ?_
          exact (ih _ (by omega)) (z + 1) m rfl (zB_mono hGm (by omega)) hFm (by omega)
        · show wW (zK sc) zM93 62 [(0, .inr (.inr (.inl (some (19, 0))))), (1, .inr (.inr (.inl (some (26, t))))), (2, .inl x), (4, .inl z)] [] _ _ _
          refine ww_go 4 (pc' := 67) (L' := [(0, .inr (.inr (.inl (some (19, 0))))), (1, .inr (.inr (.inl (some (26, t))))), (2, .inl x), (4, .inl z)]) (st' := [.inl z, .inl x, .inr (.inr (.inl (some (26, t)))), .inr (.inr (.inl (some (19, 0))))]) (m' := m) (o := none) rfl trivial ?_
          refine ww_call (vs := [.inr (.inr (.inl (some (19, 0)))), .inr (.inr (.inl (some (26, t)))), .inl x, .inl z]) (r := []) (p := 0 < 1) rfl rfl rfl rfl (show 0 < 1 from by omega) (zs94 (c := c) (by omega) x z t hGm (by omega)) ?_
          rintro _ _ m13 ⟨rfl, rfl, hGm13, hEm13, hr12⟩
          have hFm13 : zfr (fun k i j => (k = 22) ∨ (k = 23) ∨ (k = 24) ∨ (k = 25) ∨ (k = 1 ∧ 101 ≤ i ∧ i < 171 ∧ j = 1) ∨ (k = 2 ∧ 101 ≤ i ∧ i < 171) ∨ (26 ≤ k ∧ k ≤ 33 ∧ i < 10)) m0 m13 := zfr_tr hFm hEm13 (fun k i j z => Or.elim z (fun z => Or.inl z) (fun z => Or.elim z (fun z => Or.inr (Or.inl z)) (fun z => Or.elim z (fun z => Or.inr (Or.inr (Or.inl z))) (fun z => Or.elim z (fun z => Or.inr (Or.inr (Or.inr (Or.inl z)))) (fun z => Or.elim z (fun z => Or.inr (Or.inr (Or.inr (Or.inr (Or.inl z))))) (fun z => Or.elim z (fun z => Or.inr (Or.inr (Or.inr (Or.inr (Or.inr (Or.inl z)))))) (fun z => Or.inr (Or.inr (Or.inr (Or.inr (Or.inr (Or.inr (z)))))))))))))
          show wW (zK sc) zM93 70 [(0, .inr (.inr (.inl (some (19, 0))))), (1, .inr (.inr (.inl (some (26, t))))), (2, .inl x), (4, .inl z)] [] _ _ _
          refine ww_go 2 (pc' := 37) (L' := [(4, .inl (z + 1)), (0, .inr (.inr (.inl (some (19, 0))))), (1, .inr (.inr (.inl (some (26, t))))), (2, .inl x)]) (st' := []) (m' := m13) (o := none) rfl trivial ?_
          refine ww_sub (L := [(0, .inr (.inr (.inl (some (19, 0))))), (1, .inr (.inr (.inl (some (26, t))))), (2, .inl x), (4, .inl (z + 1))]) ⟨rfl, rfl, rfl, rfl, trivial⟩ rfl rfl ?_
          exact (ih _ (by omega)) (z + 1) m13 rfl (zB_mono hGm13 (by omega)) hFm13 (by omega)
set_option maxRecDepth 8000 in
/-- Receiver.lookAt -/
theorem zs93 {sc : xSc} {n : Nat × Nat} {m0 : wm} {c : Int} (hc : 0 ≤ c ∧ c ≤ 1000000) (x : Int) (y : Int) (t : Nat) (hG : zB c m0) (h0 : t < 10 ∧ 0 ≤ x ∧ x ≤ 1 ∧ 0 ≤ y ∧ y ≤ 6) : wX (zK sc) 93 [.inr (.inr (.inl (some (19, 0)))), .inr (.inr (.inl (some (26, t)))), .inl x, .inl y] n m0 (wr (fun vv n1 m1 => vv = none ∧ n = n1 ∧ zB c m1 ∧ zfr (fun k i j => (k = 22) ∨ (k = 23) ∨ (k = 24) ∨ (k = 25) ∨ (k = 1 ∧ 101 ≤ i ∧ i < 171 ∧ j = 1) ∨ (k = 2 ∧ 101 ≤ i ∧ i < 171) ∨ (26 ≤ k ∧ k ≤ 33 ∧ i < 10)) m0 m1 ∧ True)) := by
  refine wX_of (N := zM93) rfl (Nat.le_of_ble_eq_true rfl) ?_
  show wW (zK sc) zM93 0 [(0, .inr (.inr (.inl (some (19, 0))))), (1, .inr (.inr (.inl (some (26, t))))), (2, .inl x), (3, .inl y)] [] n m0 _
  have hF : zfr (fun k i j => (k = 22) ∨ (k = 23) ∨ (k = 24) ∨ (k = 25) ∨ (k = 1 ∧ 101 ≤ i ∧ i < 171 ∧ j = 1) ∨ (k = 2 ∧ 101 ≤ i ∧ i < 171) ∨ (26 ≤ k ∧ k ≤ 33 ∧ i < 10)) m0 m0 := zfr_rf
  refine ww_go 1 (pc' := 1) (L' := [(0, .inr (.inr (.inl (some (19, 0))))), (1, .inr (.inr (.inl (some (26, t))))), (2, .inl x), (3, .inl y)]) (st' := [.inl y]) (m' := m0) (o := none) rfl trivial ?_
  refine ww_if (t := 19) rfl rfl (by omega) (fun (h1 : y = 0) => ?_) (fun (h1 : ¬ (y = 0)) => ?_)
  · show wW (zK sc) zM93 19 [(0, .inr (.inr (.inl (some (19, 0))))), (1, .inr (.inr (.inl (some (26, t))))), (2, .inl x), (3, .inl y)] [] _ _ _
    refine ww_go 1 (pc' := 20) (L' := [(0, .inr (.inr (.inl (some (19, 0))))), (1, .inr (.inr (.inl (some (26, t))))), (2, .inl x), (3, .inl y)]) (st' := [.inr (.inr (.inl (some (26, t))))]) (m' := m0) (o := none) rfl trivial ?_
    refine ww_call (vs := [.inr (.inr (.inl (some (26, t))))]) (r := []) (p := t < 10) rfl rfl rfl rfl (show t < 10 from by omega) (zs156 (c := c) (by omega) t hG (by omega)) ?_
    rintro _ _ m4 ⟨r2, rfl, rfl, hGm4, hEm4, hr3⟩
    have hFm4 : zfr (fun k i j => (k = 22) ∨ (k = 23) ∨ (k = 24) ∨ (k = 25) ∨ (k = 1 ∧ 101 ≤ i ∧ i < 171 ∧ j = 1) ∨ (k = 2 ∧ 101 ≤ i ∧ i < 171) ∨ (26 ≤ k ∧ k ≤ 33 ∧ i < 10)) m0 m4 := zfr_tr hF hEm4 (fun k i j z => Or.elim z (fun z => (show (k = 22) ∨ (k = 23) ∨ (k = 24) ∨ (k = 25) ∨ (k = 1 ∧ 101 ≤ i ∧ i < 171 ∧ j = 1) ∨ (k = 2 ∧ 101 ≤ i ∧ i < 171) ∨ (26 ≤ k ∧ k ≤ 33 ∧ i < 10) from by omega)) (fun z => Or.elim z (fun z => (show (k = 22) ∨ (k = 23) ∨ (k = 24) ∨ (k = 25) ∨ (k = 1 ∧ 101 ≤ i ∧ i < 171 ∧ j = 1) ∨ (k = 2 ∧ 101 ≤ i ∧ i < 171) ∨ (26 ≤ k ∧ k ≤ 33 ∧ i < 10) from by omega)) (fun z => Or.elim z (fun z => (show (k = 22) ∨ (k = 23) ∨ (k = 24) ∨ (k = 25) ∨ (k = 1 ∧ 101 ≤ i ∧ i < 171 ∧ j = 1) ∨ (k = 2 ∧ 101 ≤ i ∧ i < 171) ∨ (26 ≤ k ∧ k ≤ 33 ∧ i < 10) from by omega)) (fun z => Or.elim z (fun z => (show (k = 22) ∨ (k = 23) ∨ (k = 24) ∨ (k = 25) ∨ (k = 1 ∧ 101 ≤ i ∧ i < 171 ∧ j = 1) ∨ (k = 2 ∧ 101 ≤ i ∧ i < 171) ∨ (26 ≤ k ∧ k ≤ 33 ∧ i < 10) from by omega)) (fun z => (show (k = 22) ∨ (k = 23) ∨ (k = 24) ∨ (k = 25) ∨ (k = 1 ∧ 101 ≤ i ∧ i < 171 ∧ j = 1) ∨ (k = 2 ∧ 101 ≤ i ∧ i < 171) ∨ (26 ≤ k ∧ k ≤ 33 ∧ i < 10) from by omega))))))
    show wW (zK sc) zM93 23 [(0, .inr (.inr (.inl (some (19, 0))))), (1, .inr (.inr (.inl (some (26, t))))), (2, .inl x), (3, .inl y)] [.inl r2] _ _ _
    refine ww_if (t := 34) rfl rfl (by omega) (fun (h5 : r2 ≠ 0) => ?_) (fun (h5 : ¬ (r2 ≠ 0)) => ?_)
    · show wW (zK sc) zM93 34 [(0, .inr (.inr (.inl (some (19, 0))))), (1, .inr (.inr (.inl (some (26, t))))), (2, .inl x), (3, .inl y)] [] _ _ _
      refine ww_go 2 (pc' := 37) (L' := [(4, .inl 1), (0, .inr (.inr (.inl (some (19, 0))))), (1, .inr (.inr (.inl (some (26, t))))), (2, .inl x), (3, .inl y)]) (st' := []) (m' := m4) (o := none) rfl trivial ?_
      refine ww_sub (L := [(0, .inr (.inr (.inl (some (19, 0))))), (1, .inr (.inr (.inl (some (26, t))))), (2, .inl x), (4, .inl 1)]) ⟨rfl, rfl, rfl, rfl, trivial⟩ rfl rfl ?_
      exact (zs93_l37 hc x y t hG h0 _) 1 m4 rfl (zB_mono hGm4 (by omega)) hFm4 (by omega)
    · show wW (zK sc) zM93 26 [(0, .inr (.inr (.inl (some (19, 0))))), (1, .inr (.inr (.inl (some (26, t))))), (2, .inl x), (3, .inl y)] [] _ _ _
      refine ww_go 4 (pc' := 30) (L' := [(0, .inr (.inr (.inl (some (19, 0))))), (1, .inr (.inr (.inl (some (26, t))))), (2, .inl x), (3, .inl y)]) (st' := [.inl 0, .inl x, .inr (.inr (.inl (some (26, t)))), .inr (.inr (.inl (some (19, 0))))]) (m' := m4) (o := none) rfl trivial ?_
      refine ww_call (vs := [.inr (.inr (.inl (some (19, 0)))), .inr (.inr (.inl (some (26, t)))), .inl x, .inl 0]) (r := []) (p := 0 < 1) rfl rfl rfl rfl (show 0 < 1 from by omega) (zs80 (c := c) (by omega) x 0 t hGm4 (by omega)) ?_
      rintro _ _ m8 ⟨rfl, rfl, hGm8, hEm8, hr7⟩
      have hFm8 : zfr (fun k i j => (k = 22) ∨ (k = 23) ∨ (k = 24) ∨ (k = 25) ∨ (k = 1 ∧ 101 ≤ i ∧ i < 171 ∧ j = 1) ∨ (k = 2 ∧ 101 ≤ i ∧ i < 171) ∨ (26 ≤ k ∧ k ≤ 33 ∧ i < 10)) m0 m8 := zfr_tr hFm4 hEm8 (fun k i j z => Or.elim z (fun z => Or.inl z) (fun z => Or.elim z (fun z => Or.inr (Or.inl z)) (fun z => Or.elim z (fun z => Or.inr (Or.inr (Or.inl z))) (fun z => Or.elim z (fun z => Or.inr (Or.inr (Or.inr (Or.inl z)))) (fun z => Or.elim z (fun z => Or.inr (Or.inr (Or.inr (Or.inr (Or.inl z))))) (fun z => Or.elim z (fun z => Or.inr (Or.inr (Or.inr (Or.inr (Or.inr (Or.inl z)))))) (fun z => Or.inr (Or.inr (Or.inr (Or.inr (Or.inr (Or.inr (z)))))))))))))
      show wW (zK sc) zM93 33 [(0, .inr (.inr (.inl (some (19, 0))))), (1, .inr (.inr (.inl (some (26, t))))), (2, .inl x), (3, .inl y)] [] _ _ _
      exact ww_rV rfl rfl ⟨rfl, rfl, zB_mono hGm8 (by omega), hFm8, by trivial⟩
  · show wW (zK sc) zM93 4 [(0, .inr (.inr (.inl (some (19, 0))))), (1, .inr (.inr (.inl (some (26, t))))), (2, .inl x), (3, .inl y)] [] _ _ _
    refine ww_go 1 (pc' := 5) (L' := [(0, .inr (.inr (.inl (some (19, 0))))), (1, .inr (.inr (.inl (some (26, t))))), (2, .inl x), (3, .inl y)]) (st' := [.inr (.inr (.inl (some (26, t))))]) (m' := m0) (o := none) rfl trivial ?_
    refine ww_call (vs := [.inr (.inr (.inl (some (26, t))))]) (r := []) (p := t < 10) rfl rfl rfl rfl (show t < 10 from by omega) (zs149 (c := c) (by omega) t hG (by omega)) ?_
    rintro _ _ _ ⟨r9, rfl, rfl, rfl, hr10⟩
    show wW (zK sc) zM93 8 [(0, .inr (.inr (.inl (some (19, 0))))), (1, .inr (.inr (.inl (some (26, t))))), (2, .inl x), (3, .inl y)] [.inl r9] _ _ _
    refine ww_if (t := 18) rfl rfl (by omega) (fun (h11 : r9 = 0) => ?_) (fun (h11 : ¬ (r9 = 0)) => ?_)
    · show wW (zK sc) zM93 18 [(0, .inr (.inr (.inl (some (19, 0))))), (1, .inr (.inr (.inl (some (26, t))))), (2, .inl x), (3, .inl y)] [] _ _ _
      exact ww_rV rfl rfl ⟨rfl, rfl, zB_mono hG (by omega), hF, by trivial⟩
    · show wW (zK sc) zM93 11 [(0, .inr (.inr (.inl (some (19, 0))))), (1, .inr (.inr (.inl (some (26, t))))), (2, .inl x), (3, .inl y)] [] _ _ _
      refine ww_go 4 (pc' := 15) (L' := [(0, .inr (.inr (.inl (some (19, 0))))), (1, .inr (.inr (.inl (some (26, t))))), (2, .inl x), (3, .inl y)]) (st' := [.inl y, .inl x, .inr (.inr (.inl (some (26, t)))), .inr (.inr (.inl (some (19, 0))))]) (m' := m0) (o := none) rfl trivial ?_
      refine ww_call (vs := [.inr (.inr (.inl (some (19, 0)))), .inr (.inr (.inl (some (26, t)))), .inl x, .inl y]) (r := []) (p := 0 < 1) rfl rfl rfl rfl (show 0 < 1 from by omega) (zs94 (c := c) (by omega) x y t hG (by omega)) ?_
      rintro _ _ m14 ⟨rfl, rfl, hGm14, hEm14, hr13⟩
      have hFm14 : zfr (fun k i j => (k = 22) ∨ (k = 23) ∨ (k = 24) ∨ (k = 25) ∨ (k = 1 ∧ 101 ≤ i ∧ i < 171 ∧ j = 1) ∨ (k = 2 ∧ 101 ≤ i ∧ i < 171) ∨ (26 ≤ k ∧ k ≤ 33 ∧ i < 10)) m0 m14 := zfr_tr hF hEm14 (fun k i j z => Or.elim z (fun z => Or.inl z) (fun z => Or.elim z (fun z => Or.inr (Or.inl z)) (fun z => Or.elim z (fun z => Or.inr (Or.inr (Or.inl z))) (fun z => Or.elim z (fun z => Or.inr (Or.inr (Or.inr (Or.inl z)))) (fun z => Or.elim z (fun z => Or.inr (Or.inr (Or.inr (Or.inr (Or.inl z))))) (fun z => Or.elim z (fun z => Or.inr (Or.inr (Or.inr (Or.inr (Or.inr (Or.inl z)))))) (fun z => Or.inr (Or.inr (Or.inr (Or.inr (Or.inr (Or.inr (z)))))))))))))
      show wW (zK sc) zM93 18 [(0, .inr (.inr (.inl (some (19, 0))))), (1, .inr (.inr (.inl (some (26, t))))), (2, .inl x), (3, .inl y)] [] _ _ _
      exact ww_rV rfl rfl ⟨rfl, rfl, zB_mono hGm14 (by omega), hFm14, by trivial⟩
set_option maxRecDepth 8000 in
theorem zs86_l94 {sc : xSc} {n : Nat × Nat} {m0 : wm} {c : Int} (hc : 0 ≤ c ∧ c ≤ 1000000) (x : Int) (t : Nat) (s : Nat) (hG : zB c m0) (h0 : t < 10 ∧ s < 101 ∧ 0 ≤ x ∧ x ≤ 1 ∧ zBat m0 s 4 ≤ 6 ∧ zBat m0 s 5 ≤ 1) : ∀ (d : Nat), ∀ (y : Int) (b : Int) (q : Int) (w : Int) (z : Int) (m : wm), (8 - z).toNat = d → zB c m → zfr (fun k i j => (k = 22) ∨ (k = 23) ∨ (k = 24) ∨ (k = 25) ∨ (k = 1 ∧ 101 ≤ i ∧ i < 171 ∧ j = 1) ∨ (k = 2 ∧ 101 ≤ i ∧ i < 171) ∨ (26 ≤ k ∧ k ≤ 33 ∧ i < 10)) m0 m → (0 ≤ y ∧ y ≤ 6 ∧ 0 ≤ b ∧ b ≤ 1 ∧ 1 ≤ w ∧ w ≤ 8 ∧ 0 ≤ z ∧ z ≤ 8 ∧ -2147483648 ≤ q ∧ q ≤ 2147483647) →  wW (zK sc) zM86 94 [(0, .inr (.inr (.inl (some (19, 0))))), (1, .inr (.inr (.inl (some (26, t))))), (4, .inl y), (5, .inl b), (6, .inl q), (7, .inl w), (8, .inl z)] [] n m (wr (fun vv n1 m1 => ∃ r : Int, vv = some (.inl r) ∧ n = n1 ∧ zB c m1 ∧ zfr (fun k i j => (k = 22) ∨ (k = 23) ∨ (k = 24) ∨ (k = 25) ∨ (k = 1 ∧ 101 ≤ i ∧ i < 171 ∧ j = 1) ∨ (k = 2 ∧ 101 ≤ i ∧ i < 171) ∨ (26 ≤ k ∧ k ≤ 33 ∧ i < 10)) m0 m1 ∧ (0 ≤ r ∧ r ≤ 1))) := by
  intro d
  induction d using Nat.strongRecOn with
  | ind d ih =>
    intro y b q w z m hd hGm hFm hi
    refine ww_go 2 (pc' := 98) (L' := [(0, .inr (.inr (.inl (some (19, 0))))), (1, .inr (.inr (.inl (some (26, t))))), (4, .inl y), (5, .inl b), (6, .inl q), (7, .inl w), (8, .inl z)]) (st' := [.inl w, .inl z]) (m' := m) (o := none) rfl trivial ?_
    refine ww_ic (t := 140) rfl rfl (by omega) (fun (h1 : w ≤ z) => ?_) (fun (h1 : ¬ (w ≤ z)) => ?_)
    · show wW (zK sc) zM86 140 [(0, .inr (.inr (.inl (some (19, 0))))), (1, .inr (.inr (.inl (some (26, t))))), (4, .inl y), (5, .inl b), (6, .inl q), (7, .inl w), (8, .inl z)] [] _ _ _
      refine ww_go 3 (pc' := 145) (L' := [(0, .inr (.inr (.inl (some (19, 0))))), (1, .inr (.inr (.inl (some (26, t))))), (4, .inl y), (5, .inl b), (6, .inl q), (7, .inl w), (8, .inl z)]) (st' := [.inl b, .inl y, .inr (.inr (.inl (some (26, t))))]) (m' := m) (o := none) rfl trivial ?_
      refine ww_call (vs := [.inr (.inr (.inl (some (26, t)))), .inl y, .inl b]) (r := []) (p := t < 10) rfl rfl rfl rfl (show t < 10 from by omega) (zs158 (c := c) (by omega) y b t hGm (by omega)) ?_
      rintro _ _ m4 ⟨rfl, rfl, hGm4, hEm4, hr3⟩
      have hFm4 : zfr (fun k i j => (k = 22) ∨ (k = 23) ∨ (k = 24) ∨ (k = 25) ∨ (k = 1 ∧ 101 ≤ i ∧ i < 171 ∧ j = 1) ∨ (k = 2 ∧ 101 ≤ i ∧ i < 171) ∨ (26 ≤ k ∧ k ≤ 33 ∧ i < 10)) m0 m4 := zfr_tr hFm hEm4 (fun k i j z => (show (k = 22) ∨ (k = 23) ∨ (k = 24) ∨ (k = 25) ∨ (k = 1 ∧ 101 ≤ i ∧ i < 171 ∧ j = 1) ∨ (k = 2 ∧ 101 ≤ i ∧ i < 171) ∨ (26 ≤ k ∧ k ≤ 33 ∧ i < 10) from by omega))
      show wW (zK sc) zM86 148 [(0, .inr (.inr (.inl (some (19, 0))))), (1, .inr (.inr (.inl (some (26, t))))), (4, .inl y), (5, .inl b), (6, .inl q), (7, .inl w), (8, .inl z)] [] _ _ _
      refine ww_go 4 (pc' := 156) (L' := [(0, .inr (.inr (.inl (some (19, 0))))), (1, .inr (.inr (.inl (some (26, t))))), (4, .inl y), (5, .inl b), (6, .inl q), (7, .inl w), (8, .inl z)]) (st' := [.inl q, .inl q, .inr (.inr (.inl (some (22, 0))))]) (m' := m4) (o := some ((0 < 1))) rfl (show (0 < 1) from by omega) ?_
      refine ww_call (vs := [.inr (.inr (.inl (some (22, 0)))), .inl q, .inl q]) (r := []) (p := 0 < 1) rfl rfl rfl rfl (show 0 < 1 from by omega) (zs106 (c := c) (by omega) q q hGm4 (by omega)) ?_
      rintro _ _ m7 ⟨rfl, rfl, hGm7, hEm7, hr6⟩
      have hFm7 : zfr (fun k i j => (k = 22) ∨ (k = 23) ∨ (k = 24) ∨ (k = 25) ∨ (k = 1 ∧ 101 ≤ i ∧ i < 171 ∧ j = 1) ∨ (k = 2 ∧ 101 ≤ i ∧ i < 171) ∨ (26 ≤ k ∧ k ≤ 33 ∧ i < 10)) m0 m7 := zfr_tr hFm4 hEm7 (fun k i j z => Or.elim z (fun z => Or.inl z) (fun z => Or.elim z (fun z => Or.inr (Or.inl z)) (fun z => Or.elim z (fun z => Or.inr (Or.inr (Or.inl z))) (fun z => Or.inr (Or.inr (Or.inr (Or.inl z)))))))
      show wW (zK sc) zM86 159 [(0, .inr (.inr (.inl (some (19, 0))))), (1, .inr (.inr (.inl (some (26, t))))), (4, .inl y), (5, .inl b), (6, .inl q), (7, .inl w), (8, .inl z)] [] _ _ _
      refine ww_go 1 (pc' := 160) (L' := [(0, .inr (.inr (.inl (some (19, 0))))), (1, .inr (.inr (.inl (some (26, t))))), (4, .inl y), (5, .inl b), (6, .inl q), (7, .inl w), (8, .inl z)]) (st' := [.inl 1]) (m' := m7) (o := none) rfl trivial ?_
      exact ww_rB rfl rfl (by omega) ⟨_, rfl, rfl, zB_mono hGm7 (by omega), hFm7, by omega⟩
    · show wW (zK sc) zM86 101 [(0, .inr (.inr (.inl (some (19, 0))))), (1, .inr (.inr (.inl (some (26, t))))), (4, .inl y), (5, .inl b), (6, .inl q), (7, .inl w), (8, .inl z)] [] _ _ _
      refine ww_go 2 (pc' := 104) (L' := [(0, .inr (.inr (.inl (some (19, 0))))), (1, .inr (.inr (.inl (some (26, t))))), (4, .inl y), (5, .inl b), (6, .inl q), (7, .inl w), (8, .inl z)]) (st' := [.inl y, .inr (.inr (.inl (some (26, t))))]) (m' := m) (o := none) rfl trivial ?_
      refine ww_call (vs := [.inr (.inr (.inl (some (26, t)))), .inl y]) (r := []) (p := t < 10) rfl rfl rfl rfl (show t < 10 from by omega) (zs152 (c := c) (by omega) y t hGm (by omega)) ?_
      rintro _ _ _ ⟨r8, rfl, rfl, rfl, hr9⟩
      show wW (zK sc) zM86 107 [(0, .inr (.inr (.inl (some (19, 0))))), (1, .inr (.inr (.inl (some (26, t))))), (4, .inl y), (5, .inl b), (6, .inl q), (7, .inl w), (8, .inl z)] [.inr (.inr (.inl (some (1, r8))))] _ _ _
      refine ww_go 11 (pc' := 126) (L' := [(0, .inr (.inr (.inl (some (19, 0))))), (1, .inr (.inr (.inl (some (26, t))))), (4, .inl y), (5, .inl b), (6, .inl q), (7, .inl w), (8, .inl z)]) (st' := [.inl z, .inl q, .inr (.inr (.inl (some (22, 0)))), .inl ((b * 64) + (z * 8)), .inr (.inr (.inl (some (1, r8))))]) (m' := m) (o := some ((0 < 1))) rfl (show (0 < 1) from by omega) ?_
      refine ww_call (vs := [.inr (.inr (.inl (some (22, 0)))), .inl q, .inl z]) (r := [.inl ((b * 64) + (z * 8)), .inr (.inr (.inl (some (1, r8))))]) (p := 0 < 1) rfl rfl rfl rfl (show 0 < 1 from by omega) (zs115 (c := c) (by omega) q z hGm (by omega)) ?_
      rintro _ _ _ ⟨r10, rfl, rfl, rfl, hr11⟩
      show wW (zK sc) zM86 129 [(0, .inr (.inr (.inl (some (19, 0))))), (1, .inr (.inr (.inl (some (26, t))))), (4, .inl y), (5, .inl b), (6, .inl q), (7, .inl w), (8, .inl z)] [.inr (.inl r10), .inl ((b * 64) + (z * 8)), .inr (.inr (.inl (some (1, r8))))] _ _ _
      refine ww_go 1 (pc' := 131) (L' := [(0, .inr (.inr (.inl (some (19, 0))))), (1, .inr (.inr (.inl (some (26, t))))), (4, .inl y), (5, .inl b), (6, .inl q), (7, .inl w), (8, .inl z)]) (st' := [.inl 8, .inr (.inl r10), .inl ((b * 64) + (z * 8)), .inr (.inr (.inl (some (1, r8))))]) (m' := m) (o := none) rfl trivial ?_
      refine ww_call (vs := [.inr (.inr (.inl (some (1, r8)))), .inl ((b * 64) + (z * 8)), .inr (.inl r10), .inl 8]) (r := []) (p := r8 < 171) rfl rfl rfl rfl (show r8 < 171 from by omega) (zs38 (c := c) (by omega) ((b * 64) + (z * 8)) r10 8 r8 hGm (by omega)) ?_
      rintro _ _ m14 ⟨rfl, rfl, hGm14, hEm14, hr13⟩
      have hFm14 : zfr (fun k i j => (k = 22) ∨ (k = 23) ∨ (k = 24) ∨ (k = 25) ∨ (k = 1 ∧ 101 ≤ i ∧ i < 171 ∧ j = 1) ∨ (k = 2 ∧ 101 ≤ i ∧ i < 171) ∨ (26 ≤ k ∧ k ≤ 33 ∧ i < 10)) m0 m14 := zfr_tr hFm hEm14 (fun k i j z => (show (k = 22) ∨ (k = 23) ∨ (k = 24) ∨ (k = 25) ∨ (k = 1 ∧ 101 ≤ i ∧ i < 171 ∧ j = 1) ∨ (k = 2 ∧ 101 ≤ i ∧ i < 171) ∨ (26 ≤ k ∧ k ≤ 33 ∧ i < 10) from Or.inr (Or.inr (Or.inr (Or.inr (Or.inr (Or.inl ((show k = 2 ∧ 101 ≤ i ∧ i < 171 from by omega)))))))))
      show wW (zK sc) zM86 134 [(0, .inr (.inr (.inl (some (19, 0))))), (1, .inr (.inr (.inl (some (26, t))))), (4, .inl y), (5, .inl b), (6, .inl q), (7, .inl w), (8, .inl z)] [] _ _ _
      refine ww_go 2 (pc' := 94) (L' := [(8, .inl (z + 1)), (0, .inr (.inr (.inl (some (19, 0))))), (1, .inr (.inr (.inl (some (26, t))))), (4, .inl y), (5, .inl b), (6, .inl q), (7, .inl w)]) (st' := []) (m' := m14) (o := none) rfl trivial ?_
      refine ww_sub (L := [(0, .inr (.inr (.inl (some (19, 0))))), (1, .inr (.inr (.inl (some (26, t))))), (4, .inl y), (5, .inl b), (6, .inl q), (7, .inl w), (8, .inl (z + 1))]) ⟨rfl, rfl, rfl, rfl, rfl, rfl, rfl, trivial⟩ rfl rfl ?_
      exact (ih _ (by omega)) y b q w (z + 1) m14 rfl (zB_mono hGm14 (by omega)) hFm14 (by omega)
set_option maxRecDepth 8000 in
/-- Receiver.keepRow -/
theorem zs86 {sc : xSc} {n : Nat × Nat} {m0 : wm} {c : Int} (hc : 0 ≤ c ∧ c ≤ 1000000) (x : Int) (t : Nat) (s : Nat) (hG : zB c m0) (h0 : t < 10 ∧ s < 101 ∧ 0 ≤ x ∧ x ≤ 1 ∧ zBat m0 s 4 ≤ 6 ∧ zBat m0 s 5 ≤ 1) : wX (zK sc) 86 [.inr (.inr (.inl (some (19, 0)))), .inr (.inr (.inl (some (26, t)))), .inl x, .inr (.inr (.inl (some (1, s))))] n m0 (wr (fun vv n1 m1 => ∃ r : Int, vv = some (.inl r) ∧ n = n1 ∧ zB c m1 ∧ zfr (fun k i j => (k = 22) ∨ (k = 23) ∨ (k = 24) ∨ (k = 25) ∨ (k = 1 ∧ 101 ≤ i ∧ i < 171 ∧ j = 1) ∨ (k = 2 ∧ 101 ≤ i ∧ i < 171) ∨ (26 ≤ k ∧ k ≤ 33 ∧ i < 10)) m0 m1 ∧ (0 ≤ r ∧ r ≤ 1))) := by
  refine wX_of (N := zM86) rfl (Nat.le_of_ble_eq_true rfl) ?_
  show wW (zK sc) zM86 0 [(0, .inr (.inr (.inl (some (19, 0))))), (1, .inr (.inr (.inl (some (26, t))))), (2, .inl x), (3, .inr (.inr (.inl (some (1, s)))))] [] n m0 _
  have hF : zfr (fun k i j => (k = 22) ∨ (k = 23) ∨ (k = 24) ∨ (k = 25) ∨ (k = 1 ∧ 101 ≤ i ∧ i < 171 ∧ j = 1) ∨ (k = 2 ∧ 101 ≤ i ∧ i < 171) ∨ (26 ≤ k ∧ k ≤ 33 ∧ i < 10)) m0 m0 := zfr_rf
  refine ww_go 2 (pc' := 2) (L' := [(0, .inr (.inr (.inl (some (19, 0))))), (1, .inr (.inr (.inl (some (26, t))))), (2, .inl x), (3, .inr (.inr (.inl (some (1, s)))))]) (st' := [.inl 4, .inr (.inr (.inl (some (1, s))))]) (m' := m0) (o := none) rfl trivial ?_
  refine ww_call (vs := [.inr (.inr (.inl (some (1, s)))), .inl 4]) (r := []) (p := s < 171) rfl rfl rfl rfl (show s < 171 from by omega) (zs28 (c := c) (by omega) 4 s hG (by omega)) ?_
  rintro _ _ _ ⟨r1, rfl, rfl, rfl, hr2⟩
  show wW (zK sc) zM86 5 [(0, .inr (.inr (.inl (some (19, 0))))), (1, .inr (.inr (.inl (some (26, t))))), (2, .inl x), (3, .inr (.inr (.inl (some (1, s)))))] [.inl r1] _ _ _
  refine ww_go 3 (pc' := 9) (L' := [(4, .inl r1), (0, .inr (.inr (.inl (some (19, 0))))), (1, .inr (.inr (.inl (some (26, t))))), (2, .inl x), (3, .inr (.inr (.inl (some (1, s)))))]) (st' := [.inl 5, .inr (.inr (.inl (some (1, s))))]) (m' := m0) (o := none) rfl trivial ?_
  refine ww_call (vs := [.inr (.inr (.inl (some (1, s)))), .inl 5]) (r := []) (p := s < 171) rfl rfl rfl rfl (show s < 171 from by omega) (zs28 (c := c) (by omega) 5 s hG (by omega)) ?_
  rintro _ _ _ ⟨r3, rfl, rfl, rfl, hr4⟩
  show wW (zK sc) zM86 12 [(4, .inl r1), (0, .inr (.inr (.inl (some (19, 0))))), (1, .inr (.inr (.inl (some (26, t))))), (2, .inl x), (3, .inr (.inr (.inl (some (1, s)))))] [.inl r3] _ _ _
  refine ww_go 3 (pc' := 16) (L' := [(5, .inl r3), (4, .inl r1), (0, .inr (.inr (.inl (some (19, 0))))), (1, .inr (.inr (.inl (some (26, t))))), (2, .inl x), (3, .inr (.inr (.inl (some (1, s)))))]) (st' := [.inr (.inr (.inl (some (26, t)))), .inl x]) (m' := m0) (o := none) rfl trivial ?_
  refine ww_call (vs := [.inr (.inr (.inl (some (26, t))))]) (r := [.inl x]) (p := t < 10) rfl rfl rfl rfl (show t < 10 from by omega) (zs155 (c := c) (by omega) t hG (by omega)) ?_
  rintro _ _ _ ⟨r5, rfl, rfl, rfl, hr6⟩
  show wW (zK sc) zM86 19 [(5, .inl r3), (4, .inl r1), (0, .inr (.inr (.inl (some (19, 0))))), (1, .inr (.inr (.inl (some (26, t))))), (2, .inl x), (3, .inr (.inr (.inl (some (1, s)))))] [.inl r5, .inl x] _ _ _
  refine ww_call (vs := [.inl x, .inl r5]) (r := []) (p := True) rfl rfl rfl rfl trivial (zs113 x r5 (by omega)) ?_
  rintro _ _ _ ⟨r7, rfl, rfl, rfl, hr8⟩
  show wW (zK sc) zM86 22 [(5, .inl r3), (4, .inl r1), (0, .inr (.inr (.inl (some (19, 0))))), (1, .inr (.inr (.inl (some (26, t))))), (2, .inl x), (3, .inr (.inr (.inl (some (1, s)))))] [.inl r7] _ _ _
  refine ww_go 2 (pc' := 26) (L' := [(5, .inl r3), (4, .inl r1), (0, .inr (.inr (.inl (some (19, 0))))), (1, .inr (.inr (.inl (some (26, t))))), (2, .inl x), (3, .inr (.inr (.inl (some (1, s)))))]) (st' := [.inl r3, .inl r1, .inl r7]) (m' := m0) (o := none) rfl trivial ?_
  refine ww_call (vs := [.inl r7, .inl r1, .inl r3]) (r := []) (p := True) rfl rfl rfl rfl trivial (zs111 r7 r1 r3 (by omega)) ?_
  rintro _ _ _ ⟨r9, rfl, rfl, rfl, hr10⟩
  show wW (zK sc) zM86 29 [(5, .inl r3), (4, .inl r1), (0, .inr (.inr (.inl (some (19, 0))))), (1, .inr (.inr (.inl (some (26, t))))), (2, .inl x), (3, .inr (.inr (.inl (some (1, s)))))] [.inl r9] _ _ _
  refine ww_go 3 (pc' := 34) (L' := [(6, .inl r9), (5, .inl r3), (4, .inl r1), (0, .inr (.inr (.inl (some (19, 0))))), (1, .inr (.inr (.inl (some (26, t))))), (2, .inl x), (3, .inr (.inr (.inl (some (1, s)))))]) (st' := [.inl r1, .inr (.inr (.inl (some (26, t))))]) (m' := m0) (o := none) rfl trivial ?_
  refine ww_call (vs := [.inr (.inr (.inl (some (26, t)))), .inl r1]) (r := []) (p := t < 10) rfl rfl rfl rfl (show t < 10 from by omega) (zs152 (c := c) (by omega) r1 t hG (by omega)) ?_
  rintro _ _ _ ⟨r11, rfl, rfl, rfl, hr12⟩
  show wW (zK sc) zM86 37 [(6, .inl r9), (5, .inl r3), (4, .inl r1), (0, .inr (.inr (.inl (some (19, 0))))), (1, .inr (.inr (.inl (some (26, t))))), (2, .inl x), (3, .inr (.inr (.inl (some (1, s)))))] [.inr (.inr (.inl (some (1, r11))))] _ _ _
  refine ww_go 2 (pc' := 40) (L' := [(6, .inl r9), (5, .inl r3), (4, .inl r1), (0, .inr (.inr (.inl (some (19, 0))))), (1, .inr (.inr (.inl (some (26, t))))), (2, .inl x), (3, .inr (.inr (.inl (some (1, s)))))]) (st' := [.inl 7, .inr (.inr (.inl (some (1, s)))), .inr (.inr (.inl (some (1, r11))))]) (m' := m0) (o := none) rfl trivial ?_
  refine ww_call (vs := [.inr (.inr (.inl (some (1, s)))), .inl 7]) (r := [.inr (.inr (.inl (some (1, r11))))]) (p := s < 171) rfl rfl rfl rfl (show s < 171 from by omega) (zs28 (c := c) (by omega) 7 s hG (by omega)) ?_
  rintro _ _ _ ⟨r13, rfl, rfl, rfl, hr14⟩
  show wW (zK sc) zM86 43 [(6, .inl r9), (5, .inl r3), (4, .inl r1), (0, .inr (.inr (.inl (some (19, 0))))), (1, .inr (.inr (.inl (some (26, t))))), (2, .inl x), (3, .inr (.inr (.inl (some (1, s)))))] [.inl r13, .inr (.inr (.inl (some (1, r11))))] _ _ _
  refine ww_call (vs := [.inr (.inr (.inl (some (1, r11)))), .inl r13]) (r := []) (p := r11 < 171) rfl rfl rfl rfl (show r11 < 171 from by omega) (zs39 (c := c) (by omega) r13 r11 hG (by omega)) ?_
  rintro _ _ m17 ⟨rfl, rfl, hGm17, hEm17, hr16⟩
  have hFm17 : zfr (fun k i j => (k = 22) ∨ (k = 23) ∨ (k = 24) ∨ (k = 25) ∨ (k = 1 ∧ 101 ≤ i ∧ i < 171 ∧ j = 1) ∨ (k = 2 ∧ 101 ≤ i ∧ i < 171) ∨ (26 ≤ k ∧ k ≤ 33 ∧ i < 10)) m0 m17 := zfr_tr hF hEm17 (fun k i j z => (show (k = 22) ∨ (k = 23) ∨ (k = 24) ∨ (k = 25) ∨ (k = 1 ∧ 101 ≤ i ∧ i < 171 ∧ j = 1) ∨ (k = 2 ∧ 101 ≤ i ∧ i < 171) ∨ (26 ≤ k ∧ k ≤ 33 ∧ i < 10) from Or.inr (Or.inr (Or.inr (Or.inr (Or.inl ((show k = 1 ∧ 101 ≤ i ∧ i < 171 ∧ j = 1 from by omega))))))))
  show wW (zK sc) zM86 46 [(6, .inl r9), (5, .inl r3), (4, .inl r1), (0, .inr (.inr (.inl (some (19, 0))))), (1, .inr (.inr (.inl (some (26, t))))), (2, .inl x), (3, .inr (.inr (.inl (some (1, s)))))] [] _ _ _
  refine ww_go 4 (pc' := 53) (L' := [(6, .inl r9), (5, .inl r3), (4, .inl r1), (0, .inr (.inr (.inl (some (19, 0))))), (1, .inr (.inr (.inl (some (26, t))))), (2, .inl x), (3, .inr (.inr (.inl (some (1, s)))))]) (st' := [.inr (.inr (.inl (some (1, s)))), .inl r9, .inr (.inr (.inl (some (22, 0))))]) (m' := m17) (o := some ((0 < 1))) rfl (show (0 < 1) from by omega) ?_
  refine ww_call (vs := [.inr (.inr (.inl (some (1, s))))]) (r := [.inl r9, .inr (.inr (.inl (some (22, 0))))]) (p := True) rfl rfl rfl rfl trivial (zs97 (c := c) (by omega) s hGm17 (by omega)) ?_
  rintro _ _ _ ⟨r18, rfl, rfl, rfl, hr19⟩
  show wW (zK sc) zM86 56 [(6, .inl r9), (5, .inl r3), (4, .inl r1), (0, .inr (.inr (.inl (some (19, 0))))), (1, .inr (.inr (.inl (some (26, t))))), (2, .inl x), (3, .inr (.inr (.inl (some (1, s)))))] [.inl r18, .inl r9, .inr (.inr (.inl (some (22, 0))))] _ _ _
  refine ww_go 3 (pc' := 61) (L' := [(6, .inl r9), (5, .inl r3), (4, .inl r1), (0, .inr (.inr (.inl (some (19, 0))))), (1, .inr (.inr (.inl (some (26, t))))), (2, .inl x), (3, .inr (.inr (.inl (some (1, s)))))]) (st' := [.inl 8, .inl 8, .inr (.inr (.inl (some (1, s)))), .inl r18, .inl r9, .inr (.inr (.inl (some (22, 0))))]) (m' := m17) (o := none) rfl trivial ?_
  refine ww_call (vs := [.inr (.inr (.inl (some (1, s)))), .inl 8, .inl 8]) (r := [.inl r18, .inl r9, .inr (.inr (.inl (some (22, 0))))]) (p := s < 171) rfl rfl rfl rfl (show s < 171 from by omega) (zs36 (c := c) (by omega) 8 8 s hGm17 (by omega)) ?_
  rintro _ _ _ ⟨r20, rfl, rfl, rfl, hr21⟩
  show wW (zK sc) zM86 64 [(6, .inl r9), (5, .inl r3), (4, .inl r1), (0, .inr (.inr (.inl (some (19, 0))))), (1, .inr (.inr (.inl (some (26, t))))), (2, .inl x), (3, .inr (.inr (.inl (some (1, s)))))] [.inr (.inl r20), .inl r18, .inl r9, .inr (.inr (.inl (some (22, 0))))] _ _ _
  refine ww_call (vs := [.inr (.inr (.inl (some (22, 0)))), .inl r9, .inl r18, .inr (.inl r20)]) (r := []) (p := 0 < 1) rfl rfl rfl rfl (show 0 < 1 from by omega) (zs105 (c := c) (by omega) r9 r18 r20 hGm17 (by omega)) ?_
  rintro _ _ m24 ⟨rfl, rfl, hGm24, hEm24, hr23⟩
  have hFm24 : zfr (fun k i j => (k = 22) ∨ (k = 23) ∨ (k = 24) ∨ (k = 25) ∨ (k = 1 ∧ 101 ≤ i ∧ i < 171 ∧ j = 1) ∨ (k = 2 ∧ 101 ≤ i ∧ i < 171) ∨ (26 ≤ k ∧ k ≤ 33 ∧ i < 10)) m0 m24 := zfr_tr hFm17 hEm24 (fun k i j z => Or.elim z (fun z => Or.inl z) (fun z => Or.elim z (fun z => Or.inr (Or.inl z)) (fun z => Or.elim z (fun z => Or.inr (Or.inr (Or.inl z))) (fun z => Or.inr (Or.inr (Or.inr (Or.inl z)))))))
  show wW (zK sc) zM86 67 [(6, .inl r9), (5, .inl r3), (4, .inl r1), (0, .inr (.inr (.inl (some (19, 0))))), (1, .inr (.inr (.inl (some (26, t))))), (2, .inl x), (3, .inr (.inr (.inl (some (1, s)))))] [] _ _ _
  refine ww_go 1 (pc' := 68) (L' := [(6, .inl r9), (5, .inl r3), (4, .inl r1), (0, .inr (.inr (.inl (some (19, 0))))), (1, .inr (.inr (.inl (some (26, t))))), (2, .inl x), (3, .inr (.inr (.inl (some (1, s)))))]) (st' := [.inr (.inr (.inl (some (1, s))))]) (m' := m24) (o := none) rfl trivial ?_
  refine ww_call (vs := [.inr (.inr (.inl (some (1, s))))]) (r := []) (p := True) rfl rfl rfl rfl trivial (zs99 (c := c) (by omega) s hGm24 (by omega)) ?_
  rintro _ _ _ ⟨r25, rfl, rfl, rfl, hr26⟩
  show wW (zK sc) zM86 71 [(6, .inl r9), (5, .inl r3), (4, .inl r1), (0, .inr (.inr (.inl (some (19, 0))))), (1, .inr (.inr (.inl (some (26, t))))), (2, .inl x), (3, .inr (.inr (.inl (some (1, s)))))] [.inl r25] _ _ _
  refine ww_go 5 (pc' := 81) (L' := [(7, .inl r25), (6, .inl r9), (5, .inl r3), (4, .inl r1), (0, .inr (.inr (.inl (some (19, 0))))), (1, .inr (.inr (.inl (some (26, t))))), (2, .inl x), (3, .inr (.inr (.inl (some (1, s)))))]) (st' := [.inl r9, .inl r9, .inr (.inr (.inl (some (22, 0))))]) (m' := m24) (o := some ((0 < 1))) rfl (show (0 < 1) from by omega) ?_
  refine ww_call (vs := [.inr (.inr (.inl (some (22, 0)))), .inl r9, .inl r9]) (r := []) (p := 0 < 1) rfl rfl rfl rfl (show 0 < 1 from by omega) (zs116 (c := c) (by omega) r9 r9 hGm24 (by omega)) ?_
  rintro _ _ _ ⟨r27, rfl, rfl, rfl, hr28⟩
  show wW (zK sc) zM86 84 [(7, .inl r25), (6, .inl r9), (5, .inl r3), (4, .inl r1), (0, .inr (.inr (.inl (some (19, 0))))), (1, .inr (.inr (.inl (some (26, t))))), (2, .inl x), (3, .inr (.inr (.inl (some (1, s)))))] [.inl r27] _ _ _
  refine ww_go 1 (pc' := 86) (L' := [(7, .inl r25), (6, .inl r9), (5, .inl r3), (4, .inl r1), (0, .inr (.inr (.inl (some (19, 0))))), (1, .inr (.inr (.inl (some (26, t))))), (2, .inl x), (3, .inr (.inr (.inl (some (1, s)))))]) (st' := [.inl r25, .inl r27]) (m' := m24) (o := none) rfl trivial ?_
  refine ww_ic (t := 91) rfl rfl (by omega) (fun (h29 : r25 ≤ r27) => ?_) (fun (h29 : ¬ (r25 ≤ r27)) => ?_)
  · show wW (zK sc) zM86 91 [(7, .inl r25), (6, .inl r9), (5, .inl r3), (4, .inl r1), (0, .inr (.inr (.inl (some (19, 0))))), (1, .inr (.inr (.inl (some (26, t))))), (2, .inl x), (3, .inr (.inr (.inl (some (1, s)))))] [] _ _ _
    refine ww_go 2 (pc' := 94) (L' := [(8, .inl 0), (7, .inl r25), (6, .inl r9), (5, .inl r3), (4, .inl r1), (0, .inr (.inr (.inl (some (19, 0))))), (1, .inr (.inr (.inl (some (26, t))))), (2, .inl x), (3, .inr (.inr (.inl (some (1, s)))))]) (st' := []) (m' := m24) (o := none) rfl trivial ?_
    refine ww_sub (L := [(0, .inr (.inr (.inl (some (19, 0))))), (1, .inr (.inr (.inl (some (26, t))))), (4, .inl r1), (5, .inl r3), (6, .inl r9), (7, .inl r25), (8, .inl 0)]) ⟨rfl, rfl, rfl, rfl, rfl, rfl, rfl, trivial⟩ rfl rfl ?_
    exact (zs86_l94 hc x t s hG h0 _) r1 r3 r9 r25 0 m24 rfl (zB_mono hGm24 (by omega)) hFm24 (by omega)
  · show wW (zK sc) zM86 89 [(7, .inl r25), (6, .inl r9), (5, .inl r3), (4, .inl r1), (0, .inr (.inr (.inl (some (19, 0))))), (1, .inr (.inr (.inl (some (26, t))))), (2, .inl x), (3, .inr (.inr (.inl (some (1, s)))))] [] _ _ _
    refine ww_go 1 (pc' := 90) (L' := [(7, .inl r25), (6, .inl r9), (5, .inl r3), (4, .inl r1), (0, .inr (.inr (.inl (some (19, 0))))), (1, .inr (.inr (.inl (some (26, t))))), (2, .inl x), (3, .inr (.inr (.inl (some (1, s)))))]) (st' := [.inl 0]) (m' := m24) (o := none) rfl trivial ?_
    exact ww_rB rfl rfl (by omega) ⟨_, rfl, rfl, zB_mono hGm24 (by omega), hFm24, by omega⟩
set_option maxRecDepth 8000 in
theorem zs84_l22 {sc : xSc} {n : Nat × Nat} {m0 : wm} {c : Int} (hc : 0 ≤ c ∧ c ≤ 1000000) (x : Int) (y : Int) (z : Int) (hG : zB c m0) (h0 : 0 ≤ x ∧ x ≤ 1 ∧ 0 ≤ y ∧ y ≤ 3 ∧ 1 ≤ z ∧ z ≤ 6) : ∀ (d : Nat), ∀ (u : Nat) (w : Int), (4 - w).toNat = d → (u < 8 ∧ 0 ≤ w ∧ w ≤ 4) →  wW (zK sc) zM84 22 [(0, .inr (.inr (.inl (some (19, 0))))), (1, .inl x), (2, .inl y), (3, .inl z), (4, .inr (.inr (.inl (some (26, u))))), (5, .inl w)] [] n m0 (wr (fun vv n1 m1 => ∃ r : Int, vv = some (.inl r) ∧ n = n1 ∧ zB c m1 ∧ zfr (fun k i j => (k = 22) ∨ (k = 23) ∨ (k = 24) ∨ (k = 25) ∨ (k = 1 ∧ 101 ≤ i ∧ i < 171 ∧ j = 1) ∨ (k = 2 ∧ 101 ≤ i ∧ i < 171) ∨ (26 ≤ k ∧ k ≤ 33 ∧ i < 10)) m0 m1 ∧ (0 ≤ r ∧ r ≤ 1))) := by
  intro d
  induction d using Nat.strongRecOn with
  | ind d ih =>
    intro u w hd hi
    have hF : zfr (fun k i j => (k = 22) ∨ (k = 23) ∨ (k = 24) ∨ (k = 25) ∨ (k = 1 ∧ 101 ≤ i ∧ i < 171 ∧ j = 1) ∨ (k = 2 ∧ 101 ≤ i ∧ i < 171) ∨ (26 ≤ k ∧ k ≤ 33 ∧ i < 10)) m0 m0 := zfr_rf
    refine ww_go 2 (pc' := 25) (L' := [(0, .inr (.inr (.inl (some (19, 0))))), (1, .inl x), (2, .inl y), (3, .inl z), (4, .inr (.inr (.inl (some (26, u))))), (5, .inl w)]) (st' := [.inl 4, .inl w]) (m' := m0) (o := none) rfl trivial ?_
    refine ww_ic (t := 91) rfl rfl (by omega) (fun (h1 : 4 ≤ w) => ?_) (fun (h1 : ¬ (4 ≤ w)) => ?_)
    · show wW (zK sc) zM84 91 [(0, .inr (.inr (.inl (some (19, 0))))), (1, .inl x), (2, .inl y), (3, .inl z), (4, .inr (.inr (.inl (some (26, u))))), (5, .inl w)] [] _ _ _
      refine ww_go 1 (pc' := 92) (L' := [(0, .inr (.inr (.inl (some (19, 0))))), (1, .inl x), (2, .inl y), (3, .inl z), (4, .inr (.inr (.inl (some (26, u))))), (5, .inl w)]) (st' := [.inl 0]) (m' := m0) (o := none) rfl trivial ?_
      exact ww_rB rfl rfl (by omega) ⟨_, rfl, rfl, zB_mono hG (by omega), hF, by omega⟩
    · show wW (zK sc) zM84 28 [(0, .inr (.inr (.inl (some (19, 0))))), (1, .inl x), (2, .inl y), (3, .inl z), (4, .inr (.inr (.inl (some (26, u))))), (5, .inl w)] [] _ _ _
      refine ww_go 3 (pc' := 32) (L' := [(0, .inr (.inr (.inl (some (19, 0))))), (1, .inl x), (2, .inl y), (3, .inl z), (4, .inr (.inr (.inl (some (26, u))))), (5, .inl w)]) (st' := [.inl w, .inl x, .inr (.inr (.inl (some (19, 0))))]) (m' := m0) (o := none) rfl trivial ?_
      refine ww_call (vs := [.inr (.inr (.inl (some (19, 0)))), .inl x, .inl w]) (r := []) (p := 0 < 1) rfl rfl rfl rfl (show 0 < 1 from by omega) (zs87 (c := c) (by omega) x w hG (by omega)) ?_
      rintro _ _ _ ⟨r2, rfl, rfl, rfl, hr3⟩
      show wW (zK sc) zM84 35 [(0, .inr (.inr (.inl (some (19, 0))))), (1, .inl x), (2, .inl y), (3, .inl z), (4, .inr (.inr (.inl (some (26, u))))), (5, .inl w)] [.inr (.inr (.inl (some (26, r2))))] _ _ _
      refine ww_go 3 (pc' := 40) (L' := [(6, .inr (.inr (.inl (some (26, r2))))), (0, .inr (.inr (.inl (some (19, 0))))), (1, .inl x), (2, .inl y), (3, .inl z), (4, .inr (.inr (.inl (some (26, u))))), (5, .inl w)]) (st' := [.inl y, .inl w]) (m' := m0) (o := none) rfl trivial ?_
      refine ww_ic (t := 47) rfl rfl (by omega) (fun (h4 : w ≠ y) => ?_) (fun (h4 : ¬ (w ≠ y)) => ?_)
      · show wW (zK sc) zM84 47 [(6, .inr (.inr (.inl (some (26, r2))))), (0, .inr (.inr (.inl (some (19, 0))))), (1, .inl x), (2, .inl y), (3, .inl z), (4, .inr (.inr (.inl (some (26, u))))), (5, .inl w)] [] _ _ _
        refine ww_go 3 (pc' := 52) (L' := [(6, .inr (.inr (.inl (some (26, r2))))), (0, .inr (.inr (.inl (some (19, 0))))), (1, .inl x), (2, .inl y), (3, .inl z), (4, .inr (.inr (.inl (some (26, u))))), (5, .inl w)]) (st' := [.inl z, .inr (.inr (.inl (some (26, u)))), .inr (.inr (.inl (some (26, r2))))]) (m' := m0) (o := none) rfl trivial ?_
        refine ww_call (vs := [.inr (.inr (.inl (some (26, r2)))), .inr (.inr (.inl (some (26, u)))), .inl z]) (r := []) (p := r2 < 10) rfl rfl rfl rfl (show r2 < 10 from by omega) (zs143 (c := c) (by omega) z r2 u hG (by omega)) ?_
        rintro _ _ _ ⟨r5, rfl, rfl, rfl, hr6⟩
        show wW (zK sc) zM84 55 [(6, .inr (.inr (.inl (some (26, r2))))), (0, .inr (.inr (.inl (some (19, 0))))), (1, .inl x), (2, .inl y), (3, .inl z), (4, .inr (.inr (.inl (some (26, u))))), (5, .inl w)] [.inl r5] _ _ _
        refine ww_go 2 (pc' := 59) (L' := [(7, .inl r5), (6, .inr (.inr (.inl (some (26, r2))))), (0, .inr (.inr (.inl (some (19, 0))))), (1, .inl x), (2, .inl y), (3, .inl z), (4, .inr (.inr (.inl (some (26, u))))), (5, .inl w)]) (st' := [.inl r5]) (m' := m0) (o := none) rfl trivial ?_
        refine ww_if (t := 85) rfl rfl (by omega) (fun (h7 : r5 = 0) => ?_) (fun (h7 : ¬ (r5 = 0)) => ?_)
        · show wW (zK sc) zM84 85 [(7, .inl r5), (6, .inr (.inr (.inl (some (26, r2))))), (0, .inr (.inr (.inl (some (19, 0))))), (1, .inl x), (2, .inl y), (3, .inl z), (4, .inr (.inr (.inl (some (26, u))))), (5, .inl w)] [] _ _ _
          refine ww_go 2 (pc' := 22) (L' := [(5, .inl (w + 1)), (7, .inl r5), (6, .inr (.inr (.inl (some (26, r2))))), (0, .inr (.inr (.inl (some (19, 0))))), (1, .inl x), (2, .inl y), (3, .inl z), (4, .inr (.inr (.inl (some (26, u)))))]) (st' := []) (m' := m0) (o := none) rfl trivial ?_
          refine ww_sub (L := [(0, .inr (.inr (.inl (some (19, 0))))), (1, .inl x), (2, .inl y), (3, .inl z), (4, .inr (.inr (.inl (some (26, u))))), (5, .inl (w + 1))]) ⟨rfl, rfl, rfl, rfl, rfl, rfl, trivial⟩ rfl rfl ?_
          exact (ih _ (by omega)) u (w + 1) rfl (by omega)
        · show wW (zK sc) zM84 62 [(7, .inl r5), (6, .inr (.inr (.inl (some (26, r2))))), (0, .inr (.inr (.inl (some (19, 0))))), (1, .inl x), (2, .inl y), (3, .inl z), (4, .inr (.inr (.inl (some (26, u))))), (5, .inl w)] [] _ _ _
          refine ww_go 4 (pc' := 67) (L' := [(7, .inl r5), (6, .inr (.inr (.inl (some (26, r2))))), (0, .inr (.inr (.inl (some (19, 0))))), (1, .inl x), (2, .inl y), (3, .inl z), (4, .inr (.inr (.inl (some (26, u))))), (5, .inl w)]) (st' := [.inl z, .inl x, .inr (.inr (.inl (some (26, u)))), .inr (.inr (.inl (some (19, 0))))]) (m' := m0) (o := none) rfl trivial ?_
          refine ww_call (vs := [.inr (.inr (.inl (some (19, 0)))), .inr (.inr (.inl (some (26, u)))), .inl x, .inl z]) (r := []) (p := 0 < 1) rfl rfl rfl rfl (show 0 < 1 from by omega) (zs77 (c := c) (by omega) x z u hG (by omega)) ?_
          rintro _ _ m10 ⟨rfl, rfl, hGm10, hEm10, hr9⟩
          have hFm10 : zfr (fun k i j => (k = 22) ∨ (k = 23) ∨ (k = 24) ∨ (k = 25) ∨ (k = 1 ∧ 101 ≤ i ∧ i < 171 ∧ j = 1) ∨ (k = 2 ∧ 101 ≤ i ∧ i < 171) ∨ (26 ≤ k ∧ k ≤ 33 ∧ i < 10)) m0 m10 := zfr_tr hF hEm10 (fun k i j z => Or.elim z (fun z => Or.inl z) (fun z => Or.elim z (fun z => Or.inr (Or.inl z)) (fun z => Or.elim z (fun z => Or.inr (Or.inr (Or.inl z))) (fun z => Or.inr (Or.inr (Or.inr (Or.inl z)))))))
          show wW (zK sc) zM84 70 [(7, .inl r5), (6, .inr (.inr (.inl (some (26, r2))))), (0, .inr (.inr (.inl (some (19, 0))))), (1, .inl x), (2, .inl y), (3, .inl z), (4, .inr (.inr (.inl (some (26, u))))), (5, .inl w)] [] _ _ _
          refine ww_go 4 (pc' := 77) (L' := [(7, .inl r5), (6, .inr (.inr (.inl (some (26, r2))))), (0, .inr (.inr (.inl (some (19, 0))))), (1, .inl x), (2, .inl y), (3, .inl z), (4, .inr (.inr (.inl (some (26, u))))), (5, .inl w)]) (st' := [.inl r5, .inr (.inr (.inl (some (26, r2)))), .inl z, .inr (.inr (.inl (some (26, u))))]) (m' := m10) (o := none) rfl trivial ?_
          refine ww_call (vs := [.inr (.inr (.inl (some (26, r2)))), .inl r5]) (r := [.inl z, .inr (.inr (.inl (some (26, u))))]) (p := r2 < 10) rfl rfl rfl rfl (show r2 < 10 from by omega) (zs152 (c := c) (by omega) r5 r2 hGm10 (by omega)) ?_
          rintro _ _ _ ⟨r11, rfl, rfl, rfl, hr12⟩
          show wW (zK sc) zM84 80 [(7, .inl r5), (6, .inr (.inr (.inl (some (26, r2))))), (0, .inr (.inr (.inl (some (19, 0))))), (1, .inl x), (2, .inl y), (3, .inl z), (4, .inr (.inr (.inl (some (26, u))))), (5, .inl w)] [.inr (.inr (.inl (some (1, r11)))), .inl z, .inr (.inr (.inl (some (26, u))))] _ _ _
          refine ww_call (vs := [.inr (.inr (.inl (some (26, u)))), .inl z, .inr (.inr (.inl (some (1, r11))))]) (r := []) (p := u < 10) rfl rfl rfl rfl (show u < 10 from by omega) (zs144 (c := c) (by omega) z u r11 hGm10 (by omega)) ?_
          rintro _ _ m15 ⟨rfl, rfl, hGm15, hEm15, hr14⟩
          have hFm15 : zfr (fun k i j => (k = 22) ∨ (k = 23) ∨ (k = 24) ∨ (k = 25) ∨ (k = 1 ∧ 101 ≤ i ∧ i < 171 ∧ j = 1) ∨ (k = 2 ∧ 101 ≤ i ∧ i < 171) ∨ (26 ≤ k ∧ k ≤ 33 ∧ i < 10)) m0 m15 := zfr_tr hFm10 hEm15 (fun k i j z => Or.elim z (fun z => Or.inr (Or.inr (Or.inr (Or.inr (Or.inl z))))) (fun z => Or.elim z (fun z => Or.inr (Or.inr (Or.inr (Or.inr (Or.inr (Or.inl z)))))) (fun z => Or.elim z (fun z => (show (k = 22) ∨ (k = 23) ∨ (k = 24) ∨ (k = 25) ∨ (k = 1 ∧ 101 ≤ i ∧ i < 171 ∧ j = 1) ∨ (k = 2 ∧ 101 ≤ i ∧ i < 171) ∨ (26 ≤ k ∧ k ≤ 33 ∧ i < 10) from by omega)) (fun z => (show (k = 22) ∨ (k = 23) ∨ (k = 24) ∨ (k = 25) ∨ (k = 1 ∧ 101 ≤ i ∧ i < 171 ∧ j = 1) ∨ (k = 2 ∧ 101 ≤ i ∧ i < 171) ∨ (26 ≤ k ∧ k ≤ 33 ∧ i < 10) from by omega)))))
          show wW (zK sc) zM84 83 [(7, .inl r5), (6, .inr (.inr (.inl (some (26, r2))))), (0, .inr (.inr (.inl (some (19, 0))))), (1, .inl x), (2, .inl y), (3, .inl z), (4, .inr (.inr (.inl (some (26, u))))), (5, .inl w)] [] _ _ _
          refine ww_go 1 (pc' := 84) (L' := [(7, .inl r5), (6, .inr (.inr (.inl (some (26, r2))))), (0, .inr (.inr (.inl (some (19, 0))))), (1, .inl x), (2, .inl y), (3, .inl z), (4, .inr (.inr (.inl (some (26, u))))), (5, .inl w)]) (st' := [.inl 1]) (m' := m15) (o := none) rfl trivial ?_
          exact ww_rB rfl rfl (by omega) ⟨_, rfl, rfl, zB_mono hGm15 (by omega), hFm15, by omega⟩
      · show wW (zK sc) zM84 43 [(6, .inr (.inr (.inl (some (26, r2))))), (0, .inr (.inr (.inl (some (19, 0))))), (1, .inl x), (2, .inl y), (3, .inl z), (4, .inr (.inr (.inl (some (26, u))))), (5, .inl w)] [] _ _ _
        refine ww_go 4 (pc' := 59) (L' := [(7, .inl 0), (6, .inr (.inr (.inl (some (26, r2))))), (0, .inr (.inr (.inl (some (19, 0))))), (1, .inl x), (2, .inl y), (3, .inl z), (4, .inr (.inr (.inl (some (26, u))))), (5, .inl w)]) (st' := [.inl 0]) (m' := m0) (o := none) rfl trivial ?_
        refine ww_if (t := 85) rfl rfl (by decide) (fun (h16 : (0 : Int) = 0) => ?_) (fun (h16 : ¬ ((0 : Int) = 0)) => absurd (show (0 : Int) = 0 from by decide) h16)
        show wW (zK sc) zM84 85 [(7, .inl 0), (6, .inr (.inr (.inl (some (26, r2))))), (0, .inr (.inr (.inl (some (19, 0))))), (1, .inl x), (2, .inl y), (3, .inl z), (4, .inr (.inr (.inl (some (26, u))))), (5, .inl w)] [] _ _ _
        refine ww_go 2 (pc' := 22) (L' := [(5, .inl (w + 1)), (7, .inl 0), (6, .inr (.inr (.inl (some (26, r2))))), (0, .inr (.inr (.inl (some (19, 0))))), (1, .inl x), (2, .inl y), (3, .inl z), (4, .inr (.inr (.inl (some (26, u)))))]) (st' := []) (m' := m0) (o := none) rfl trivial ?_
        refine ww_sub (L := [(0, .inr (.inr (.inl (some (19, 0))))), (1, .inl x), (2, .inl y), (3, .inl z), (4, .inr (.inr (.inl (some (26, u))))), (5, .inl (w + 1))]) ⟨rfl, rfl, rfl, rfl, rfl, rfl, trivial⟩ rfl rfl ?_
        exact (ih _ (by omega)) u (w + 1) rfl (by omega)
set_option maxRecDepth 8000 in
/-- Receiver.holdByOther -/
theorem zs84 {sc : xSc} {n : Nat × Nat} {m0 : wm} {c : Int} (hc : 0 ≤ c ∧ c ≤ 1000000) (x : Int) (y : Int) (z : Int) (hG : zB c m0) (h0 : 0 ≤ x ∧ x ≤ 1 ∧ 0 ≤ y ∧ y ≤ 3 ∧ 1 ≤ z ∧ z ≤ 6) : wX (zK sc) 84 [.inr (.inr (.inl (some (19, 0)))), .inl x, .inl y, .inl z] n m0 (wr (fun vv n1 m1 => ∃ r : Int, vv = some (.inl r) ∧ n = n1 ∧ zB c m1 ∧ zfr (fun k i j => (k = 22) ∨ (k = 23) ∨ (k = 24) ∨ (k = 25) ∨ (k = 1 ∧ 101 ≤ i ∧ i < 171 ∧ j = 1) ∨ (k = 2 ∧ 101 ≤ i ∧ i < 171) ∨ (26 ≤ k ∧ k ≤ 33 ∧ i < 10)) m0 m1 ∧ (0 ≤ r ∧ r ≤ 1))) := by
  refine wX_of (N := zM84) rfl (Nat.le_of_ble_eq_true rfl) ?_
  show wW (zK sc) zM84 0 [(0, .inr (.inr (.inl (some (19, 0))))), (1, .inl x), (2, .inl y), (3, .inl z)] [] n m0 _
  have hF : zfr (fun k i j => (k = 22) ∨ (k = 23) ∨ (k = 24) ∨ (k = 25) ∨ (k = 1 ∧ 101 ≤ i ∧ i < 171 ∧ j = 1) ∨ (k = 2 ∧ 101 ≤ i ∧ i < 171) ∨ (26 ≤ k ∧ k ≤ 33 ∧ i < 10)) m0 m0 := zfr_rf
  refine ww_go 3 (pc' := 3) (L' := [(0, .inr (.inr (.inl (some (19, 0))))), (1, .inl x), (2, .inl y), (3, .inl z)]) (st' := [.inl y, .inl x, .inr (.inr (.inl (some (19, 0))))]) (m' := m0) (o := none) rfl trivial ?_
  refine ww_call (vs := [.inr (.inr (.inl (some (19, 0)))), .inl x, .inl y]) (r := []) (p := 0 < 1) rfl rfl rfl rfl (show 0 < 1 from by omega) (zs87 (c := c) (by omega) x y hG (by omega)) ?_
  rintro _ _ _ ⟨r1, rfl, rfl, rfl, hr2⟩
  show wW (zK sc) zM84 6 [(0, .inr (.inr (.inl (some (19, 0))))), (1, .inl x), (2, .inl y), (3, .inl z)] [.inr (.inr (.inl (some (26, r1))))] _ _ _
  refine ww_go 3 (pc' := 11) (L' := [(4, .inr (.inr (.inl (some (26, r1))))), (0, .inr (.inr (.inl (some (19, 0))))), (1, .inl x), (2, .inl y), (3, .inl z)]) (st' := [.inl z, .inr (.inr (.inl (some (26, r1))))]) (m' := m0) (o := none) rfl trivial ?_
  refine ww_call (vs := [.inr (.inr (.inl (some (26, r1)))), .inl z]) (r := []) (p := r1 < 10) rfl rfl rfl rfl (show r1 < 10 from by omega) (zs146 (c := c) (by omega) z r1 hG (by omega)) ?_
  rintro _ _ _ ⟨r3, rfl, rfl, rfl, hr4⟩
  show wW (zK sc) zM84 14 [(4, .inr (.inr (.inl (some (26, r1))))), (0, .inr (.inr (.inl (some (19, 0))))), (1, .inl x), (2, .inl y), (3, .inl z)] [.inl r3] _ _ _
  refine ww_if (t := 19) rfl rfl (by omega) (fun (h5 : r3 = 0) => ?_) (fun (h5 : ¬ (r3 = 0)) => ?_)
  · show wW (zK sc) zM84 19 [(4, .inr (.inr (.inl (some (26, r1))))), (0, .inr (.inr (.inl (some (19, 0))))), (1, .inl x), (2, .inl y), (3, .inl z)] [] _ _ _
    refine ww_go 2 (pc' := 22) (L' := [(5, .inl 0), (4, .inr (.inr (.inl (some (26, r1))))), (0, .inr (.inr (.inl (some (19, 0))))), (1, .inl x), (2, .inl y), (3, .inl z)]) (st' := []) (m' := m0) (o := none) rfl trivial ?_
    refine ww_sub (L := [(0, .inr (.inr (.inl (some (19, 0))))), (1, .inl x), (2, .inl y), (3, .inl z), (4, .inr (.inr (.inl (some (26, r1))))), (5, .inl 0)]) ⟨rfl, rfl, rfl, rfl, rfl, rfl, trivial⟩ rfl rfl ?_
    exact (zs84_l22 hc x y z hG h0 _) r1 0 rfl (by omega)
  · show wW (zK sc) zM84 17 [(4, .inr (.inr (.inl (some (26, r1))))), (0, .inr (.inr (.inl (some (19, 0))))), (1, .inl x), (2, .inl y), (3, .inl z)] [] _ _ _
    refine ww_go 1 (pc' := 18) (L' := [(4, .inr (.inr (.inl (some (26, r1))))), (0, .inr (.inr (.inl (some (19, 0))))), (1, .inl x), (2, .inl y), (3, .inl z)]) (st' := [.inl 0]) (m' := m0) (o := none) rfl trivial ?_
    exact ww_rB rfl rfl (by omega) ⟨_, rfl, rfl, zB_mono hG (by omega), hF, by omega⟩
set_option maxRecDepth 8000 in
theorem zs83_l4 {sc : xSc} {n : Nat × Nat} {m0 : wm} {c : Int} (hc : 0 ≤ c ∧ c ≤ 1000000) (x : Int) (hG : zB c m0) (h0 : 0 ≤ x ∧ x ≤ 1) : ∀ (d : Nat), (∀ (b : Int) (y : Int) (m : wm), (25 - y).toNat * 10000 + 9999 = d → zB c m → zfr (fun k i j => (k = 22) ∨ (k = 23) ∨ (k = 24) ∨ (k = 25) ∨ (k = 1 ∧ 101 ≤ i ∧ i < 171 ∧ j = 1) ∨ (k = 2 ∧ 101 ≤ i ∧ i < 171) ∨ (26 ≤ k ∧ k ≤ 33 ∧ i < 10)) m0 m → (0 ≤ b ∧ b ≤ 131071 ∧ 0 ≤ y ∧ y ≤ 25) →  wW (zK sc) zM83 4 [(0, .inr (.inr (.inl (some (19, 0))))), (1, .inl x), (2, .inl b), (3, .inl y)] [] n m (wr (fun vv n1 m1 => vv = none ∧ n = n1 ∧ zB c m1 ∧ zfr (fun k i j => (k = 22) ∨ (k = 23) ∨ (k = 24) ∨ (k = 25) ∨ (k = 1 ∧ 101 ≤ i ∧ i < 171 ∧ j = 1) ∨ (k = 2 ∧ 101 ≤ i ∧ i < 171) ∨ (26 ≤ k ∧ k ≤ 33 ∧ i < 10)) m0 m1 ∧ True))) ∧ (∀ (b : Int) (y : Int) (z : Int) (m : wm), (25 - y).toNat * 10000 + (4 - z).toNat * 100 + 99 = d → zB c m → zfr (fun k i j => (k = 22) ∨ (k = 23) ∨ (k = 24) ∨ (k = 25) ∨ (k = 1 ∧ 101 ≤ i ∧ i < 171 ∧ j = 1) ∨ (k = 2 ∧ 101 ≤ i ∧ i < 171) ∨ (26 ≤ k ∧ k ≤ 33 ∧ i < 10)) m0 m → (0 ≤ b ∧ b ≤ 131071 ∧ 0 ≤ y ∧ y ≤ 24 ∧ 0 ≤ z ∧ z ≤ 4) →  wW (zK sc) zM83 19 [(0, .inr (.inr (.inl (some (19, 0))))), (1, .inl x), (2, .inl b), (3, .inl y), (4, .inl z)] [] n m (wr (fun vv n1 m1 => vv = none ∧ n = n1 ∧ zB c m1 ∧ zfr (fun k i j => (k = 22) ∨ (k = 23) ∨ (k = 24) ∨ (k = 25) ∨ (k = 1 ∧ 101 ≤ i ∧ i < 171 ∧ j = 1) ∨ (k = 2 ∧ 101 ≤ i ∧ i < 171) ∨ (26 ≤ k ∧ k ≤ 33 ∧ i < 10)) m0 m1 ∧ True))) ∧ (∀ (b : Int) (y : Int) (z : Int) (w : Int) (m : wm), (25 - y).toNat * 10000 + (4 - z).toNat * 100 + (7 - w).toNat = d → zB c m → zfr (fun k i j => (k = 22) ∨ (k = 23) ∨ (k = 24) ∨ (k = 25) ∨ (k = 1 ∧ 101 ≤ i ∧ i < 171 ∧ j = 1) ∨ (k = 2 ∧ 101 ≤ i ∧ i < 171) ∨ (26 ≤ k ∧ k ≤ 33 ∧ i < 10)) m0 m → (0 ≤ b ∧ b ≤ 131071 ∧ 0 ≤ y ∧ y ≤ 24 ∧ 0 ≤ z ∧ z ≤ 3 ∧ 1 ≤ w ∧ w ≤ 7) →  wW (zK sc) zM83 28 [(0, .inr (.inr (.inl (some (19, 0))))), (1, .inl x), (2, .inl b), (3, .inl y), (4, .inl z), (5, .inl w)] [] n m (wr (fun vv n1 m1 => vv = none ∧ n = n1 ∧ zB c m1 ∧ zfr (fun k i j => (k = 22) ∨ (k = 23) ∨ (k = 24) ∨ (k = 25) ∨ (k = 1 ∧ 101 ≤ i ∧ i < 171 ∧ j = 1) ∨ (k = 2 ∧ 101 ≤ i ∧ i < 171) ∨ (26 ≤ k ∧ k ≤ 33 ∧ i < 10)) m0 m1 ∧ True))) := by
  intro d
  induction d using Nat.strongRecOn with
  | ind d ih =>
    refine ⟨?_, ?_, ?_⟩
    · intro b y m hd hGm hFm hi
      refine ww_go 1 (pc' := 5) (L' := [(0, .inr (.inr (.inl (some (19, 0))))), (1, .inl x), (2, .inl b), (3, .inl y)]) (st' := [.inl b]) (m' := m) (o := none) rfl trivial ?_
      refine ww_if (t := 73) rfl rfl (by omega) (fun (h1 : b = 0) => ?_) (fun (h1 : ¬ (b = 0)) => ?_)
      · show wW (zK sc) zM83 73 [(0, .inr (.inr (.inl (some (19, 0))))), (1, .inl x), (2, .inl b), (3, .inl y)] [] _ _ _
        exact ww_rV rfl rfl ⟨rfl, rfl, zB_mono hGm (by omega), hFm, by trivial⟩
      · show wW (zK sc) zM83 8 [(0, .inr (.inr (.inl (some (19, 0))))), (1, .inl x), (2, .inl b), (3, .inl y)] [] _ _ _
        refine ww_go 2 (pc' := 11) (L' := [(0, .inr (.inr (.inl (some (19, 0))))), (1, .inl x), (2, .inl b), (3, .inl y)]) (st' := [.inl 24, .inl y]) (m' := m) (o := none) rfl trivial ?_
        refine ww_ic (t := 73) rfl rfl (by omega) (fun (h2 : 24 < y) => ?_) (fun (h2 : ¬ (24 < y)) => ?_)
        · show wW (zK sc) zM83 73 [(0, .inr (.inr (.inl (some (19, 0))))), (1, .inl x), (2, .inl b), (3, .inl y)] [] _ _ _
          exact ww_rV rfl rfl ⟨rfl, rfl, zB_mono hGm (by omega), hFm, by trivial⟩
        · show wW (zK sc) zM83 14 [(0, .inr (.inr (.inl (some (19, 0))))), (1, .inl x), (2, .inl b), (3, .inl y)] [] _ _ _
          refine ww_go 4 (pc' := 19) (L' := [(4, .inl 0), (2, .inl 0), (0, .inr (.inr (.inl (some (19, 0))))), (1, .inl x), (3, .inl y)]) (st' := []) (m' := m) (o := none) rfl trivial ?_
          refine ww_sub (L := [(0, .inr (.inr (.inl (some (19, 0))))), (1, .inl x), (2, .inl 0), (3, .inl y), (4, .inl 0)]) ⟨rfl, rfl, rfl, rfl, rfl, trivial⟩ rfl rfl ?_
          exact (ih _ (by omega)).2.1 0 y 0 m rfl (zB_mono hGm (by omega)) hFm (by omega)
    · intro b y z m hd hGm hFm hi
      refine ww_go 2 (pc' := 22) (L' := [(0, .inr (.inr (.inl (some (19, 0))))), (1, .inl x), (2, .inl b), (3, .inl y), (4, .inl z)]) (st' := [.inl 4, .inl z]) (m' := m) (o := none) rfl trivial ?_
      refine ww_ic (t := 67) rfl rfl (by omega) (fun (h1 : 4 ≤ z) => ?_) (fun (h1 : ¬ (4 ≤ z)) => ?_)
      · show wW (zK sc) zM83 67 [(0, .inr (.inr (.inl (some (19, 0))))), (1, .inl x), (2, .inl b), (3, .inl y), (4, .inl z)] [] _ _ _
        refine ww_go 2 (pc' := 4) (L' := [(3, .inl (y + 1)), (0, .inr (.inr (.inl (some (19, 0))))), (1, .inl x), (2, .inl b), (4, .inl z)]) (st' := []) (m' := m) (o := none) rfl trivial ?_
        refine ww_sub (L := [(0, .inr (.inr (.inl (some (19, 0))))), (1, .inl x), (2, .inl b), (3, .inl (y + 1))]) ⟨rfl, rfl, rfl, rfl, trivial⟩ rfl rfl ?_
        exact (ih _ (by omega)).1 b (y + 1) m rfl (zB_mono hGm (by omega)) hFm (by omega)
      · show wW (zK sc) zM83 25 [(0, .inr (.inr (.inl (some (19, 0))))), (1, .inl x), (2, .inl b), (3, .inl y), (4, .inl z)] [] _ _ _
        refine ww_go 2 (pc' := 28) (L' := [(5, .inl 1), (0, .inr (.inr (.inl (some (19, 0))))), (1, .inl x), (2, .inl b), (3, .inl y), (4, .inl z)]) (st' := []) (m' := m) (o := none) rfl trivial ?_
        refine ww_sub (L := [(0, .inr (.inr (.inl (some (19, 0))))), (1, .inl x), (2, .inl b), (3, .inl y), (4, .inl z), (5, .inl 1)]) ⟨rfl, rfl, rfl, rfl, rfl, rfl, trivial⟩ rfl rfl ?_
        exact (ih _ (by omega)).2.2 b y z 1 m rfl (zB_mono hGm (by omega)) hFm (by omega)
    · intro b y z w m hd hGm hFm hi
      refine ww_go 4 (pc' := 34) (L' := [(0, .inr (.inr (.inl (some (19, 0))))), (1, .inl x), (2, .inl b), (3, .inl y), (4, .inl z), (5, .inl w)]) (st' := [.inl z, .inl x, .inr (.inr (.inl (some (19, 0)))), .inl w]) (m' := m) (o := none) rfl trivial ?_
      refine ww_call (vs := [.inr (.inr (.inl (some (19, 0)))), .inl x, .inl z]) (r := [.inl w]) (p := 0 < 1) rfl rfl rfl rfl (show 0 < 1 from by omega) (zs87 (c := c) (by omega) x z hGm (by omega)) ?_
      rintro _ _ _ ⟨r1, rfl, rfl, rfl, hr2⟩
      show wW (zK sc) zM83 37 [(0, .inr (.inr (.inl (some (19, 0))))), (1, .inl x), (2, .inl b), (3, .inl y), (4, .inl z), (5, .inl w)] [.inr (.inr (.inl (some (26, r1)))), .inl w] _ _ _
      refine ww_call (vs := [.inr (.inr (.inl (some (26, r1))))]) (r := [.inl w]) (p := r1 < 10) rfl rfl rfl rfl (show r1 < 10 from by omega) (zs141 (c := c) (by omega) r1 hGm (by omega)) ?_
      rintro _ _ _ ⟨r3, rfl, rfl, rfl, hr4⟩
      show wW (zK sc) zM83 40 [(0, .inr (.inr (.inl (some (19, 0))))), (1, .inl x), (2, .inl b), (3, .inl y), (4, .inl z), (5, .inl w)] [.inl r3, .inl w] _ _ _
      refine ww_ic (t := 61) rfl rfl (by omega) (fun (h5 : r3 < w) => ?_) (fun (h5 : ¬ (r3 < w)) => ?_)
      · show wW (zK sc) zM83 61 [(0, .inr (.inr (.inl (some (19, 0))))), (1, .inl x), (2, .inl b), (3, .inl y), (4, .inl z), (5, .inl w)] [] _ _ _
        refine ww_go 2 (pc' := 19) (L' := [(4, .inl (z + 1)), (0, .inr (.inr (.inl (some (19, 0))))), (1, .inl x), (2, .inl b), (3, .inl y), (5, .inl w)]) (st' := []) (m' := m) (o := none) rfl trivial ?_
        refine ww_sub (L := [(0, .inr (.inr (.inl (some (19, 0))))), (1, .inl x), (2, .inl b), (3, .inl y), (4, .inl (z + 1))]) ⟨rfl, rfl, rfl, rfl, rfl, trivial⟩ rfl rfl ?_
        exact (ih _ (by omega)).2.1 b y (z + 1) m rfl (zB_mono hGm (by omega)) hFm (by omega)
      · show wW (zK sc) zM83 43 [(0, .inr (.inr (.inl (some (19, 0))))), (1, .inl x), (2, .inl b), (3, .inl y), (4, .inl z), (5, .inl w)] [] _ _ _
        refine ww_go 5 (pc' := 50) (L' := [(0, .inr (.inr (.inl (some (19, 0))))), (1, .inl x), (2, .inl b), (3, .inl y), (4, .inl z), (5, .inl w)]) (st' := [.inl w, .inl z, .inl x, .inr (.inr (.inl (some (19, 0)))), .inl b]) (m' := m) (o := none) rfl trivial ?_
        refine ww_call (vs := [.inr (.inr (.inl (some (19, 0)))), .inl x, .inl z, .inl w]) (r := [.inl b]) (p := 0 < 1) rfl rfl rfl rfl (show 0 < 1 from by omega) (zs84 (c := c) (by omega) x z w hGm (by omega)) ?_
        rintro _ _ m8 ⟨r6, rfl, rfl, hGm8, hEm8, hr7⟩
        have hFm8 : zfr (fun k i j => (k = 22) ∨ (k = 23) ∨ (k = 24) ∨ (k = 25) ∨ (k = 1 ∧ 101 ≤ i ∧ i < 171 ∧ j = 1) ∨ (k = 2 ∧ 101 ≤ i ∧ i < 171) ∨ (26 ≤ k ∧ k ≤ 33 ∧ i < 10)) m0 m8 := zfr_tr hFm hEm8 (fun k i j z => Or.elim z (fun z => Or.inl z) (fun z => Or.elim z (fun z => Or.inr (Or.inl z)) (fun z => Or.elim z (fun z => Or.inr (Or.inr (Or.inl z))) (fun z => Or.elim z (fun z => Or.inr (Or.inr (Or.inr (Or.inl z)))) (fun z => Or.elim z (fun z => Or.inr (Or.inr (Or.inr (Or.inr (Or.inl z))))) (fun z => Or.elim z (fun z => Or.inr (Or.inr (Or.inr (Or.inr (Or.inr (Or.inl z)))))) (fun z => Or.inr (Or.inr (Or.inr (Or.inr (Or.inr (Or.inr (z)))))))))))))
        show wW (zK sc) zM83 53 [(0, .inr (.inr (.inl (some (19, 0))))), (1, .inl x), (2, .inl b), (3, .inl y), (4, .inl z), (5, .inl w)] [.inl r6, .inl b] _ _ _
        have t9 := wor_rg b r6
        have t10 : (0 ≤ b ∧ b ≤ 131071 ∧ 0 ≤ r6 ∧ r6 ≤ 131071) → (0 ≤ wor b r6 ∧ wor b r6 ≤ 131071) := fun z => wor_131071 ⟨z.1, z.2.1⟩ z.2.2
        refine ww_go 4 (pc' := 28) (L' := [(5, .inl (w + 1)), (2, .inl (wor b r6)), (0, .inr (.inr (.inl (some (19, 0))))), (1, .inl x), (3, .inl y), (4, .inl z)]) (st' := []) (m' := m8) (o := none) rfl trivial ?_
        refine ww_sub (L := [(0, .inr (.inr (.inl (some (19, 0))))), (1, .inl x), (2, .inl (wor b r6)), (3, .inl y), (4, .inl z), (5, .inl (w + 1))]) ⟨rfl, rfl, rfl, rfl, rfl, rfl, trivial⟩ rfl rfl ?_
        exact (ih _ (by omega)).2.2 (wor b r6) y z (w + 1) m8 rfl (zB_mono hGm8 (by omega)) hFm8 (by omega)
set_option maxRecDepth 8000 in
/-- Receiver.holdAlike -/
theorem zs83 {sc : xSc} {n : Nat × Nat} {m0 : wm} {c : Int} (hc : 0 ≤ c ∧ c ≤ 1000000) (x : Int) (hG : zB c m0) (h0 : 0 ≤ x ∧ x ≤ 1) : wX (zK sc) 83 [.inr (.inr (.inl (some (19, 0)))), .inl x] n m0 (wr (fun vv n1 m1 => vv = none ∧ n = n1 ∧ zB c m1 ∧ zfr (fun k i j => (k = 22) ∨ (k = 23) ∨ (k = 24) ∨ (k = 25) ∨ (k = 1 ∧ 101 ≤ i ∧ i < 171 ∧ j = 1) ∨ (k = 2 ∧ 101 ≤ i ∧ i < 171) ∨ (26 ≤ k ∧ k ≤ 33 ∧ i < 10)) m0 m1 ∧ True)) := by
  refine wX_of (N := zM83) rfl (Nat.le_of_ble_eq_true rfl) ?_
  show wW (zK sc) zM83 0 [(0, .inr (.inr (.inl (some (19, 0))))), (1, .inl x)] [] n m0 _
  have hF : zfr (fun k i j => (k = 22) ∨ (k = 23) ∨ (k = 24) ∨ (k = 25) ∨ (k = 1 ∧ 101 ≤ i ∧ i < 171 ∧ j = 1) ∨ (k = 2 ∧ 101 ≤ i ∧ i < 171) ∨ (26 ≤ k ∧ k ≤ 33 ∧ i < 10)) m0 m0 := zfr_rf
  refine ww_go 4 (pc' := 4) (L' := [(3, .inl 0), (2, .inl 1), (0, .inr (.inr (.inl (some (19, 0))))), (1, .inl x)]) (st' := []) (m' := m0) (o := none) rfl trivial ?_
  refine ww_sub (L := [(0, .inr (.inr (.inl (some (19, 0))))), (1, .inl x), (2, .inl 1), (3, .inl 0)]) ⟨rfl, rfl, rfl, rfl, trivial⟩ rfl rfl ?_
  exact (zs83_l4 hc x hG h0 _).1 1 0 m0 rfl (zB_mono hG (by omega)) hF (by omega)
set_option maxRecDepth 8000 in
theorem zs90_l4 {sc : xSc} {n : Nat × Nat} {m : wm} {c : Int} (hc : 0 ≤ c ∧ c ≤ 1000000) (x : Int) (hG : zB c m) (h0 : 0 ≤ x ∧ x ≤ 1) : ∀ (d : Nat), ∀ (q : Option (Nat × Nat)) (z : Int), (4 - z).toNat = d → (0 ≤ z ∧ z ≤ 4) → (q = none ∨ ∃ e : Nat, q = some (26, e) ∧ e < 8) →  wW (zK sc) zM90 4 [(0, .inr (.inr (.inl (some (19, 0))))), (1, .inl x), (2, .inr (.inr (.inl q))), (3, .inl z)] [] n m (wr (fun vv n1 m1 => ∃ r : Option (Nat × Nat), vv = some (.inr (.inr (.inl r))) ∧ n = n1 ∧ m = m1 ∧ (r = none ∨ ∃ e : Nat, r = some (26, e) ∧ (e < 8)))) := by
  intro d
  induction d using Nat.strongRecOn with
  | ind d ih =>
    intro q z hd hi hq
    rcases hq with rfl | ⟨u9, rfl, hu9⟩
    · show wW (zK sc) zM90 4 [(0, .inr (.inr (.inl (some (19, 0))))), (1, .inl x), (2, .inr (.inr (.inl none))), (3, .inl z)] [] _ _ _
      refine ww_go 2 (pc' := 6) (L' := [(0, .inr (.inr (.inl (some (19, 0))))), (1, .inl x), (2, .inr (.inr (.inl none))), (3, .inl z)]) (st' := [.inl 4, .inl z]) (m' := m) (o := none) rfl trivial ?_
      refine ww_ic (t := 71) rfl rfl (by omega) (fun (h1 : 4 ≤ z) => ?_) (fun (h1 : ¬ (4 ≤ z)) => ?_)
      · show wW (zK sc) zM90 71 [(0, .inr (.inr (.inl (some (19, 0))))), (1, .inl x), (2, .inr (.inr (.inl none))), (3, .inl z)] [] _ _ _
        refine ww_go 1 (pc' := 72) (L' := [(0, .inr (.inr (.inl (some (19, 0))))), (1, .inl x), (2, .inr (.inr (.inl none))), (3, .inl z)]) (st' := [.inr (.inr (.inl none))]) (m' := m) (o := none) rfl trivial ?_
        exact ww_rA rfl rfl ⟨_, rfl, rfl, rfl, Or.inl rfl⟩
      · show wW (zK sc) zM90 9 [(0, .inr (.inr (.inl (some (19, 0))))), (1, .inl x), (2, .inr (.inr (.inl none))), (3, .inl z)] [] _ _ _
        refine ww_go 3 (pc' := 12) (L' := [(0, .inr (.inr (.inl (some (19, 0))))), (1, .inl x), (2, .inr (.inr (.inl none))), (3, .inl z)]) (st' := [.inl z, .inl x, .inr (.inr (.inl (some (19, 0))))]) (m' := m) (o := none) rfl trivial ?_
        refine ww_call (vs := [.inr (.inr (.inl (some (19, 0)))), .inl x, .inl z]) (r := []) (p := 0 < 1) rfl rfl rfl rfl (show 0 < 1 from by omega) (zs87 (c := c) (by omega) x z hG (by omega)) ?_
        rintro _ _ _ ⟨r2, rfl, rfl, rfl, hr3⟩
        show wW (zK sc) zM90 15 [(0, .inr (.inr (.inl (some (19, 0))))), (1, .inl x), (2, .inr (.inr (.inl none))), (3, .inl z)] [.inr (.inr (.inl (some (26, r2))))] _ _ _
        refine ww_go 2 (pc' := 19) (L' := [(4, .inr (.inr (.inl (some (26, r2))))), (0, .inr (.inr (.inl (some (19, 0))))), (1, .inl x), (2, .inr (.inr (.inl none))), (3, .inl z)]) (st' := [.inr (.inr (.inl (some (26, r2))))]) (m' := m) (o := none) rfl trivial ?_
        refine ww_call (vs := [.inr (.inr (.inl (some (26, r2))))]) (r := []) (p := r2 < 10) rfl rfl rfl rfl (show r2 < 10 from by omega) (zs159 (c := c) (by omega) r2 hG (by omega)) ?_
        rintro _ _ _ ⟨r4, rfl, rfl, rfl, hr5⟩
        show wW (zK sc) zM90 22 [(4, .inr (.inr (.inl (some (26, r2))))), (0, .inr (.inr (.inl (some (19, 0))))), (1, .inl x), (2, .inr (.inr (.inl none))), (3, .inl z)] [.inl r4] _ _ _
        refine ww_go 1 (pc' := 23) (L' := [(4, .inr (.inr (.inl (some (26, r2))))), (0, .inr (.inr (.inl (some (19, 0))))), (1, .inl x), (2, .inr (.inr (.inl none))), (3, .inl z)]) (st' := [.inl 1, .inl r4]) (m' := m) (o := none) rfl trivial ?_
        refine ww_ic (t := 38) rfl rfl (by omega) (fun (h6 : r4 ≠ 1) => ?_) (fun (h6 : ¬ (r4 ≠ 1)) => ?_)
        · show wW (zK sc) zM90 38 [(4, .inr (.inr (.inl (some (26, r2))))), (0, .inr (.inr (.inl (some (19, 0))))), (1, .inl x), (2, .inr (.inr (.inl none))), (3, .inl z)] [] _ _ _
          refine ww_go 3 (pc' := 43) (L' := [(5, .inl 0), (4, .inr (.inr (.inl (some (26, r2))))), (0, .inr (.inr (.inl (some (19, 0))))), (1, .inl x), (2, .inr (.inr (.inl none))), (3, .inl z)]) (st' := [.inl 0]) (m' := m) (o := none) rfl trivial ?_
          refine ww_if (t := 65) rfl rfl (by decide) (fun (h7 : (0 : Int) = 0) => ?_) (fun (h7 : ¬ ((0 : Int) = 0)) => absurd (show (0 : Int) = 0 from by decide) h7)
          show wW (zK sc) zM90 65 [(5, .inl 0), (4, .inr (.inr (.inl (some (26, r2))))), (0, .inr (.inr (.inl (some (19, 0))))), (1, .inl x), (2, .inr (.inr (.inl none))), (3, .inl z)] [] _ _ _
          refine ww_go 2 (pc' := 4) (L' := [(3, .inl (z + 1)), (5, .inl 0), (4, .inr (.inr (.inl (some (26, r2))))), (0, .inr (.inr (.inl (some (19, 0))))), (1, .inl x), (2, .inr (.inr (.inl none)))]) (st' := []) (m' := m) (o := none) rfl trivial ?_
          refine ww_sub (L := [(0, .inr (.inr (.inl (some (19, 0))))), (1, .inl x), (2, .inr (.inr (.inl none))), (3, .inl (z + 1))]) ⟨rfl, rfl, rfl, rfl, trivial⟩ rfl rfl ?_
          exact (ih _ (by omega)) none (z + 1) rfl (by omega) (by first | exact Or.inl rfl | exact Or.inr ⟨_, rfl, by omega⟩)
        · show wW (zK sc) zM90 26 [(4, .inr (.inr (.inl (some (26, r2))))), (0, .inr (.inr (.inl (some (19, 0))))), (1, .inl x), (2, .inr (.inr (.inl none))), (3, .inl z)] [] _ _ _
          refine ww_go 1 (pc' := 28) (L' := [(4, .inr (.inr (.inl (some (26, r2))))), (0, .inr (.inr (.inl (some (19, 0))))), (1, .inl x), (2, .inr (.inr (.inl none))), (3, .inl z)]) (st' := [.inr (.inr (.inl (some (26, r2))))]) (m' := m) (o := none) rfl trivial ?_
          refine ww_call (vs := [.inr (.inr (.inl (some (26, r2))))]) (r := []) (p := r2 < 10) rfl rfl rfl rfl (show r2 < 10 from by omega) (zs151 (c := c) (by omega) r2 hG (by omega)) ?_
          rintro _ _ _ ⟨r8, rfl, rfl, rfl, hr9⟩
          show wW (zK sc) zM90 31 [(4, .inr (.inr (.inl (some (26, r2))))), (0, .inr (.inr (.inl (some (19, 0))))), (1, .inl x), (2, .inr (.inr (.inl none))), (3, .inl z)] [.inl r8] _ _ _
          refine ww_if (t := 38) rfl rfl (by omega) (fun (h10 : r8 = 0) => ?_) (fun (h10 : ¬ (r8 = 0)) => ?_)
          · show wW (zK sc) zM90 38 [(4, .inr (.inr (.inl (some (26, r2))))), (0, .inr (.inr (.inl (some (19, 0))))), (1, .inl x), (2, .inr (.inr (.inl none))), (3, .inl z)] [] _ _ _
            refine ww_go 3 (pc' := 43) (L' := [(5, .inl 0), (4, .inr (.inr (.inl (some (26, r2))))), (0, .inr (.inr (.inl (some (19, 0))))), (1, .inl x), (2, .inr (.inr (.inl none))), (3, .inl z)]) (st' := [.inl 0]) (m' := m) (o := none) rfl trivial ?_
            refine ww_if (t := 65) rfl rfl (by decide) (fun (h11 : (0 : Int) = 0) => ?_) (fun (h11 : ¬ ((0 : Int) = 0)) => absurd (show (0 : Int) = 0 from by decide) h11)
            show wW (zK sc) zM90 65 [(5, .inl 0), (4, .inr (.inr (.inl (some (26, r2))))), (0, .inr (.inr (.inl (some (19, 0))))), (1, .inl x), (2, .inr (.inr (.inl none))), (3, .inl z)] [] _ _ _
            refine ww_go 2 (pc' := 4) (L' := [(3, .inl (z + 1)), (5, .inl 0), (4, .inr (.inr (.inl (some (26, r2))))), (0, .inr (.inr (.inl (some (19, 0))))), (1, .inl x), (2, .inr (.inr (.inl none)))]) (st' := []) (m' := m) (o := none) rfl trivial ?_
            refine ww_sub (L := [(0, .inr (.inr (.inl (some (19, 0))))), (1, .inl x), (2, .inr (.inr (.inl none))), (3, .inl (z + 1))]) ⟨rfl, rfl, rfl, rfl, trivial⟩ rfl rfl ?_
            exact (ih _ (by omega)) none (z + 1) rfl (by omega) (by first | exact Or.inl rfl | exact Or.inr ⟨_, rfl, by omega⟩)
          · show wW (zK sc) zM90 34 [(4, .inr (.inr (.inl (some (26, r2))))), (0, .inr (.inr (.inl (some (19, 0))))), (1, .inl x), (2, .inr (.inr (.inl none))), (3, .inl z)] [] _ _ _
            refine ww_go 4 (pc' := 43) (L' := [(5, .inl 1), (4, .inr (.inr (.inl (some (26, r2))))), (0, .inr (.inr (.inl (some (19, 0))))), (1, .inl x), (2, .inr (.inr (.inl none))), (3, .inl z)]) (st' := [.inl 1]) (m' := m) (o := none) rfl trivial ?_
            refine ww_if (t := 65) rfl rfl (by decide) (fun (h12 : (1 : Int) = 0) => absurd h12 (by decide)) (fun (h12 : ¬ ((1 : Int) = 0)) => ?_)
            show wW (zK sc) zM90 46 [(5, .inl 1), (4, .inr (.inr (.inl (some (26, r2))))), (0, .inr (.inr (.inl (some (19, 0))))), (1, .inl x), (2, .inr (.inr (.inl none))), (3, .inl z)] [] _ _ _
            refine ww_go 1 (pc' := 47) (L' := [(5, .inl 1), (4, .inr (.inr (.inl (some (26, r2))))), (0, .inr (.inr (.inl (some (19, 0))))), (1, .inl x), (2, .inr (.inr (.inl none))), (3, .inl z)]) (st' := [.inr (.inr (.inl none))]) (m' := m) (o := none) rfl trivial ?_
            refine ww_nu (t := 62) rfl rfl (fun h => ?_) (fun zz9 h => by cases h)
            show wW (zK sc) zM90 62 [(5, .inl 1), (4, .inr (.inr (.inl (some (26, r2))))), (0, .inr (.inr (.inl (some (19, 0))))), (1, .inl x), (2, .inr (.inr (.inl none))), (3, .inl z)] [] _ _ _
            refine ww_go 4 (pc' := 4) (L' := [(3, .inl (z + 1)), (2, .inr (.inr (.inl (some (26, r2))))), (5, .inl 1), (4, .inr (.inr (.inl (some (26, r2))))), (0, .inr (.inr (.inl (some (19, 0))))), (1, .inl x)]) (st' := []) (m' := m) (o := none) rfl trivial ?_
            refine ww_sub (L := [(0, .inr (.inr (.inl (some (19, 0))))), (1, .inl x), (2, .inr (.inr (.inl (some (26, r2))))), (3, .inl (z + 1))]) ⟨rfl, rfl, rfl, rfl, trivial⟩ rfl rfl ?_
            exact (ih _ (by omega)) (some (26, r2)) (z + 1) rfl (by omega) (by first | exact Or.inl rfl | exact Or.inr ⟨_, rfl, by omega⟩)
    · show wW (zK sc) zM90 4 [(0, .inr (.inr (.inl (some (19, 0))))), (1, .inl x), (2, .inr (.inr (.inl (some (26, u9))))), (3, .inl z)] [] _ _ _
      refine ww_go 2 (pc' := 6) (L' := [(0, .inr (.inr (.inl (some (19, 0))))), (1, .inl x), (2, .inr (.inr (.inl (some (26, u9))))), (3, .inl z)]) (st' := [.inl 4, .inl z]) (m' := m) (o := none) rfl trivial ?_
      refine ww_ic (t := 71) rfl rfl (by omega) (fun (h13 : 4 ≤ z) => ?_) (fun (h13 : ¬ (4 ≤ z)) => ?_)
      · show wW (zK sc) zM90 71 [(0, .inr (.inr (.inl (some (19, 0))))), (1, .inl x), (2, .inr (.inr (.inl (some (26, u9))))), (3, .inl z)] [] _ _ _
        refine ww_go 1 (pc' := 72) (L' := [(0, .inr (.inr (.inl (some (19, 0))))), (1, .inl x), (2, .inr (.inr (.inl (some (26, u9))))), (3, .inl z)]) (st' := [.inr (.inr (.inl (some (26, u9))))]) (m' := m) (o := none) rfl trivial ?_
        exact ww_rA rfl rfl ⟨_, rfl, rfl, rfl, Or.inr ⟨_, rfl, by omega⟩⟩
      · show wW (zK sc) zM90 9 [(0, .inr (.inr (.inl (some (19, 0))))), (1, .inl x), (2, .inr (.inr (.inl (some (26, u9))))), (3, .inl z)] [] _ _ _
        refine ww_go 3 (pc' := 12) (L' := [(0, .inr (.inr (.inl (some (19, 0))))), (1, .inl x), (2, .inr (.inr (.inl (some (26, u9))))), (3, .inl z)]) (st' := [.inl z, .inl x, .inr (.inr (.inl (some (19, 0))))]) (m' := m) (o := none) rfl trivial ?_
        refine ww_call (vs := [.inr (.inr (.inl (some (19, 0)))), .inl x, .inl z]) (r := []) (p := 0 < 1) rfl rfl rfl rfl (show 0 < 1 from by omega) (zs87 (c := c) (by omega) x z hG (by omega)) ?_
        rintro _ _ _ ⟨r14, rfl, rfl, rfl, hr15⟩
        show wW (zK sc) zM90 15 [(0, .inr (.inr (.inl (some (19, 0))))), (1, .inl x), (2, .inr (.inr (.inl (some (26, u9))))), (3, .inl z)] [.inr (.inr (.inl (some (26, r14))))] _ _ _
        refine ww_go 2 (pc' := 19) (L' := [(4, .inr (.inr (.inl (some (26, r14))))), (0, .inr (.inr (.inl (some (19, 0))))), (1, .inl x), (2, .inr (.inr (.inl (some (26, u9))))), (3, .inl z)]) (st' := [.inr (.inr (.inl (some (26, r14))))]) (m' := m) (o := none) rfl trivial ?_
        refine ww_call (vs := [.inr (.inr (.inl (some (26, r14))))]) (r := []) (p := r14 < 10) rfl rfl rfl rfl (show r14 < 10 from by omega) (zs159 (c := c) (by omega) r14 hG (by omega)) ?_
        rintro _ _ _ ⟨r16, rfl, rfl, rfl, hr17⟩
        show wW (zK sc) zM90 22 [(4, .inr (.inr (.inl (some (26, r14))))), (0, .inr (.inr (.inl (some (19, 0))))), (1, .inl x), (2, .inr (.inr (.inl (some (26, u9))))), (3, .inl z)] [.inl r16] _ _ _
        refine ww_go 1 (pc' := 23) (L' := [(4, .inr (.inr (.inl (some (26, r14))))), (0, .inr (.inr (.inl (some (19, 0))))), (1, .inl x), (2, .inr (.inr (.inl (some (26, u9))))), (3, .inl z)]) (st' := [.inl 1, .inl r16]) (m' := m) (o := none) rfl trivial ?_
        refine ww_ic (t := 38) rfl rfl (by omega) (fun (h18 : r16 ≠ 1) => ?_) (fun (h18 : ¬ (r16 ≠ 1)) => ?_)
        · show wW (zK sc) zM90 38 [(4, .inr (.inr (.inl (some (26, r14))))), (0, .inr (.inr (.inl (some (19, 0))))), (1, .inl x), (2, .inr (.inr (.inl (some (26, u9))))), (3, .inl z)] [] _ _ _
          refine ww_go 3 (pc' := 43) (L' := [(5, .inl 0), (4, .inr (.inr (.inl (some (26, r14))))), (0, .inr (.inr (.inl (some (19, 0))))), (1, .inl x), (2, .inr (.inr (.inl (some (26, u9))))), (3, .inl z)]) (st' := [.inl 0]) (m' := m) (o := none) rfl trivial ?_
          refine ww_if (t := 65) rfl rfl (by decide) (fun (h19 : (0 : Int) = 0) => ?_) (fun (h19 : ¬ ((0 : Int) = 0)) => absurd (show (0 : Int) = 0 from by decide) h19)
          show wW (zK sc) zM90 65 [(5, .inl 0), (4, .inr (.inr (.inl (some (26, r14))))), (0, .inr (.inr (.inl (some (19, 0))))), (1, .inl x), (2, .inr (.inr (.inl (some (26, u9))))), (3, .inl z)] [] _ _ _
          refine ww_go 2 (pc' := 4) (L' := [(3, .inl (z + 1)), (5, .inl 0), (4, .inr (.inr (.inl (some (26, r14))))), (0, .inr (.inr (.inl (some (19, 0))))), (1, .inl x), (2, .inr (.inr (.inl (some (26, u9)))))]) (st' := []) (m' := m) (o := none) rfl trivial ?_
          refine ww_sub (L := [(0, .inr (.inr (.inl (some (19, 0))))), (1, .inl x), (2, .inr (.inr (.inl (some (26, u9))))), (3, .inl (z + 1))]) ⟨rfl, rfl, rfl, rfl, trivial⟩ rfl rfl ?_
          exact (ih _ (by omega)) (some (26, u9)) (z + 1) rfl (by omega) (by first | exact Or.inl rfl | exact Or.inr ⟨_, rfl, by omega⟩)
        · show wW (zK sc) zM90 26 [(4, .inr (.inr (.inl (some (26, r14))))), (0, .inr (.inr (.inl (some (19, 0))))), (1, .inl x), (2, .inr (.inr (.inl (some (26, u9))))), (3, .inl z)] [] _ _ _
          refine ww_go 1 (pc' := 28) (L' := [(4, .inr (.inr (.inl (some (26, r14))))), (0, .inr (.inr (.inl (some (19, 0))))), (1, .inl x), (2, .inr (.inr (.inl (some (26, u9))))), (3, .inl z)]) (st' := [.inr (.inr (.inl (some (26, r14))))]) (m' := m) (o := none) rfl trivial ?_
          refine ww_call (vs := [.inr (.inr (.inl (some (26, r14))))]) (r := []) (p := r14 < 10) rfl rfl rfl rfl (show r14 < 10 from by omega) (zs151 (c := c) (by omega) r14 hG (by omega)) ?_
          rintro _ _ _ ⟨r20, rfl, rfl, rfl, hr21⟩
          show wW (zK sc) zM90 31 [(4, .inr (.inr (.inl (some (26, r14))))), (0, .inr (.inr (.inl (some (19, 0))))), (1, .inl x), (2, .inr (.inr (.inl (some (26, u9))))), (3, .inl z)] [.inl r20] _ _ _
          refine ww_if (t := 38) rfl rfl (by omega) (fun (h22 : r20 = 0) => ?_) (fun (h22 : ¬ (r20 = 0)) => ?_)
          · show wW (zK sc) zM90 38 [(4, .inr (.inr (.inl (some (26, r14))))), (0, .inr (.inr (.inl (some (19, 0))))), (1, .inl x), (2, .inr (.inr (.inl (some (26, u9))))), (3, .inl z)] [] _ _ _
            refine ww_go 3 (pc' := 43) (L' := [(5, .inl 0), (4, .inr (.inr (.inl (some (26, r14))))), (0, .inr (.inr (.inl (some (19, 0))))), (1, .inl x), (2, .inr (.inr (.inl (some (26, u9))))), (3, .inl z)]) (st' := [.inl 0]) (m' := m) (o := none) rfl trivial ?_
            refine ww_if (t := 65) rfl rfl (by decide) (fun (h23 : (0 : Int) = 0) => ?_) (fun (h23 : ¬ ((0 : Int) = 0)) => absurd (show (0 : Int) = 0 from by decide) h23)
            show wW (zK sc) zM90 65 [(5, .inl 0), (4, .inr (.inr (.inl (some (26, r14))))), (0, .inr (.inr (.inl (some (19, 0))))), (1, .inl x), (2, .inr (.inr (.inl (some (26, u9))))), (3, .inl z)] [] _ _ _
            refine ww_go 2 (pc' := 4) (L' := [(3, .inl (z + 1)), (5, .inl 0), (4, .inr (.inr (.inl (some (26, r14))))), (0, .inr (.inr (.inl (some (19, 0))))), (1, .inl x), (2, .inr (.inr (.inl (some (26, u9)))))]) (st' := []) (m' := m) (o := none) rfl trivial ?_
            refine ww_sub (L := [(0, .inr (.inr (.inl (some (19, 0))))), (1, .inl x), (2, .inr (.inr (.inl (some (26, u9))))), (3, .inl (z + 1))]) ⟨rfl, rfl, rfl, rfl, trivial⟩ rfl rfl ?_
            exact (ih _ (by omega)) (some (26, u9)) (z + 1) rfl (by omega) (by first | exact Or.inl rfl | exact Or.inr ⟨_, rfl, by omega⟩)
          · show wW (zK sc) zM90 34 [(4, .inr (.inr (.inl (some (26, r14))))), (0, .inr (.inr (.inl (some (19, 0))))), (1, .inl x), (2, .inr (.inr (.inl (some (26, u9))))), (3, .inl z)] [] _ _ _
            refine ww_go 4 (pc' := 43) (L' := [(5, .inl 1), (4, .inr (.inr (.inl (some (26, r14))))), (0, .inr (.inr (.inl (some (19, 0))))), (1, .inl x), (2, .inr (.inr (.inl (some (26, u9))))), (3, .inl z)]) (st' := [.inl 1]) (m' := m) (o := none) rfl trivial ?_
            refine ww_if (t := 65) rfl rfl (by decide) (fun (h24 : (1 : Int) = 0) => absurd h24 (by decide)) (fun (h24 : ¬ ((1 : Int) = 0)) => ?_)
            show wW (zK sc) zM90 46 [(5, .inl 1), (4, .inr (.inr (.inl (some (26, r14))))), (0, .inr (.inr (.inl (some (19, 0))))), (1, .inl x), (2, .inr (.inr (.inl (some (26, u9))))), (3, .inl z)] [] _ _ _
            refine ww_go 1 (pc' := 47) (L' := [(5, .inl 1), (4, .inr (.inr (.inl (some (26, r14))))), (0, .inr (.inr (.inl (some (19, 0))))), (1, .inl x), (2, .inr (.inr (.inl (some (26, u9))))), (3, .inl z)]) (st' := [.inr (.inr (.inl (some (26, u9))))]) (m' := m) (o := none) rfl trivial ?_
            refine ww_nu (t := 62) rfl rfl (fun h => by cases h) (fun zz9 h => ?_)
            show wW (zK sc) zM90 50 [(5, .inl 1), (4, .inr (.inr (.inl (some (26, r14))))), (0, .inr (.inr (.inl (some (19, 0))))), (1, .inl x), (2, .inr (.inr (.inl (some (26, u9))))), (3, .inl z)] [] _ _ _
            refine ww_go 1 (pc' := 52) (L' := [(5, .inl 1), (4, .inr (.inr (.inl (some (26, r14))))), (0, .inr (.inr (.inl (some (19, 0))))), (1, .inl x), (2, .inr (.inr (.inl (some (26, u9))))), (3, .inl z)]) (st' := [.inr (.inr (.inl (some (26, r14))))]) (m' := m) (o := none) rfl trivial ?_
            refine ww_call (vs := [.inr (.inr (.inl (some (26, r14))))]) (r := []) (p := r14 < 10) rfl rfl rfl rfl (show r14 < 10 from by omega) (zs155 (c := c) (by omega) r14 hG (by omega)) ?_
            rintro _ _ _ ⟨r25, rfl, rfl, rfl, hr26⟩
            show wW (zK sc) zM90 55 [(5, .inl 1), (4, .inr (.inr (.inl (some (26, r14))))), (0, .inr (.inr (.inl (some (19, 0))))), (1, .inl x), (2, .inr (.inr (.inl (some (26, u9))))), (3, .inl z)] [.inl r25] _ _ _
            refine ww_go 1 (pc' := 56) (L' := [(5, .inl 1), (4, .inr (.inr (.inl (some (26, r14))))), (0, .inr (.inr (.inl (some (19, 0))))), (1, .inl x), (2, .inr (.inr (.inl (some (26, u9))))), (3, .inl z)]) (st' := [.inr (.inr (.inl (some (26, u9)))), .inl r25]) (m' := m) (o := none) rfl trivial ?_
            refine ww_call (vs := [.inr (.inr (.inl (some (26, u9))))]) (r := [.inl r25]) (p := u9 < 10) rfl rfl rfl rfl (show u9 < 10 from by omega) (zs155 (c := c) (by omega) u9 hG (by omega)) ?_
            rintro _ _ _ ⟨r27, rfl, rfl, rfl, hr28⟩
            show wW (zK sc) zM90 59 [(5, .inl 1), (4, .inr (.inr (.inl (some (26, r14))))), (0, .inr (.inr (.inl (some (19, 0))))), (1, .inl x), (2, .inr (.inr (.inl (some (26, u9))))), (3, .inl z)] [.inl r27, .inl r25] _ _ _
            refine ww_ic (t := 65) rfl rfl (by omega) (fun (h29 : r27 ≤ r25) => ?_) (fun (h29 : ¬ (r27 ≤ r25)) => ?_)
            · show wW (zK sc) zM90 65 [(5, .inl 1), (4, .inr (.inr (.inl (some (26, r14))))), (0, .inr (.inr (.inl (some (19, 0))))), (1, .inl x), (2, .inr (.inr (.inl (some (26, u9))))), (3, .inl z)] [] _ _ _
              refine ww_go 2 (pc' := 4) (L' := [(3, .inl (z + 1)), (5, .inl 1), (4, .inr (.inr (.inl (some (26, r14))))), (0, .inr (.inr (.inl (some (19, 0))))), (1, .inl x), (2, .inr (.inr (.inl (some (26, u9)))))]) (st' := []) (m' := m) (o := none) rfl trivial ?_
              refine ww_sub (L := [(0, .inr (.inr (.inl (some (19, 0))))), (1, .inl x), (2, .inr (.inr (.inl (some (26, u9))))), (3, .inl (z + 1))]) ⟨rfl, rfl, rfl, rfl, trivial⟩ rfl rfl ?_
              exact (ih _ (by omega)) (some (26, u9)) (z + 1) rfl (by omega) (by first | exact Or.inl rfl | exact Or.inr ⟨_, rfl, by omega⟩)
            · show wW (zK sc) zM90 62 [(5, .inl 1), (4, .inr (.inr (.inl (some (26, r14))))), (0, .inr (.inr (.inl (some (19, 0))))), (1, .inl x), (2, .inr (.inr (.inl (some (26, u9))))), (3, .inl z)] [] _ _ _
              refine ww_go 4 (pc' := 4) (L' := [(3, .inl (z + 1)), (2, .inr (.inr (.inl (some (26, r14))))), (5, .inl 1), (4, .inr (.inr (.inl (some (26, r14))))), (0, .inr (.inr (.inl (some (19, 0))))), (1, .inl x)]) (st' := []) (m' := m) (o := none) rfl trivial ?_
              refine ww_sub (L := [(0, .inr (.inr (.inl (some (19, 0))))), (1, .inl x), (2, .inr (.inr (.inl (some (26, r14))))), (3, .inl (z + 1))]) ⟨rfl, rfl, rfl, rfl, trivial⟩ rfl rfl ?_
              exact (ih _ (by omega)) (some (26, r14)) (z + 1) rfl (by omega) (by first | exact Or.inl rfl | exact Or.inr ⟨_, rfl, by omega⟩)
set_option maxRecDepth 8000 in
/-- Receiver.leastToJudge -/
theorem zs90 {sc : xSc} {n : Nat × Nat} {m : wm} {c : Int} (hc : 0 ≤ c ∧ c ≤ 1000000) (x : Int) (hG : zB c m) (h0 : 0 ≤ x ∧ x ≤ 1) : wX (zK sc) 90 [.inr (.inr (.inl (some (19, 0)))), .inl x] n m (wr (fun vv n1 m1 => ∃ r : Option (Nat × Nat), vv = some (.inr (.inr (.inl r))) ∧ n = n1 ∧ m = m1 ∧ (r = none ∨ ∃ e : Nat, r = some (26, e) ∧ (e < 8)))) := by
  refine wX_of (N := zM90) rfl (Nat.le_of_ble_eq_true rfl) ?_
  show wW (zK sc) zM90 0 [(0, .inr (.inr (.inl (some (19, 0))))), (1, .inl x)] [] n m _
  refine ww_go 4 (pc' := 4) (L' := [(3, .inl 0), (2, .inr (.inr (.inl none))), (0, .inr (.inr (.inl (some (19, 0))))), (1, .inl x)]) (st' := []) (m' := m) (o := none) rfl trivial ?_
  refine ww_sub (L := [(0, .inr (.inr (.inl (some (19, 0))))), (1, .inl x), (2, .inr (.inr (.inl none))), (3, .inl 0)]) ⟨rfl, rfl, rfl, rfl, trivial⟩ rfl rfl ?_
  exact (zs90_l4 hc x hG h0 _) none 0 rfl (by omega) (by first | exact Or.inl rfl | exact Or.inr ⟨_, rfl, by omega⟩)
set_option maxRecDepth 8000 in
theorem zs85_l7 {sc : xSc} {n : Nat × Nat} {m0 : wm} {c : Int} (hc : 0 ≤ c ∧ c ≤ 1000000) (x : Int) (q : Option (Nat × Nat)) (hG : zB c m0) (h0 : 0 ≤ x ∧ x ≤ 1) (hq : q = none ∨ ∃ e : Nat, q = some (26, e) ∧ e < 8) : ∀ (d : Nat), ∀ (u : Nat) (z : Int) (m : wm), (4 - z).toNat = d → zB c m → zfr (fun k i j => (26 ≤ k ∧ k ≤ 33 ∧ i < 10) ∨ (k = 1 ∧ i = 2 ∧ j = 1) ∨ (k = 2 ∧ i = 2) ∨ (k = 16) ∨ (k = 17) ∨ (k = 18)) m0 m → (u < 8 ∧ 0 ≤ z ∧ z ≤ 4) →  wW (zK sc) zM85 7 [(0, .inr (.inr (.inl (some (19, 0))))), (1, .inr (.inr (.inl (some (26, u))))), (2, .inl x), (3, .inl z)] [] n m (wr (fun vv n1 m1 => vv = none ∧ n = n1 ∧ zB (c + 1) m1 ∧ zfr (fun k i j => (26 ≤ k ∧ k ≤ 33 ∧ i < 10) ∨ (k = 1 ∧ i = 2 ∧ j = 1) ∨ (k = 2 ∧ i = 2) ∨ (k = 16) ∨ (k = 17) ∨ (k = 18)) m0 m1 ∧ True)) := by
  intro d
  induction d using Nat.strongRecOn with
  | ind d ih =>
    intro u z m hd hGm hFm hi
    refine ww_go 2 (pc' := 9) (L' := [(0, .inr (.inr (.inl (some (19, 0))))), (1, .inr (.inr (.inl (some (26, u))))), (2, .inl x), (3, .inl z)]) (st' := [.inl 4, .inl z]) (m' := m) (o := none) rfl trivial ?_
    refine ww_ic (t := 58) rfl rfl (by omega) (fun (h1 : 4 ≤ z) => ?_) (fun (h1 : ¬ (4 ≤ z)) => ?_)
    · show wW (zK sc) zM85 58 [(0, .inr (.inr (.inl (some (19, 0))))), (1, .inr (.inr (.inl (some (26, u))))), (2, .inl x), (3, .inl z)] [] _ _ _
      refine ww_go 2 (pc' := 60) (L' := [(0, .inr (.inr (.inl (some (19, 0))))), (1, .inr (.inr (.inl (some (26, u))))), (2, .inl x), (3, .inl z)]) (st' := [.inl 2, .inr (.inr (.inl (some (26, u))))]) (m' := m) (o := none) rfl trivial ?_
      refine ww_call (vs := [.inr (.inr (.inl (some (26, u)))), .inl 2]) (r := []) (p := u < 10) rfl rfl rfl rfl (show u < 10 from by omega) (zs137 (c := c) (by omega) 2 u hGm (by omega)) ?_
      rintro _ _ m4 ⟨rfl, rfl, hGm4, hEm4, hr3⟩
      have hFm4 : zfr (fun k i j => (26 ≤ k ∧ k ≤ 33 ∧ i < 10) ∨ (k = 1 ∧ i = 2 ∧ j = 1) ∨ (k = 2 ∧ i = 2) ∨ (k = 16) ∨ (k = 17) ∨ (k = 18)) m0 m4 := zfr_tr hFm hEm4 (fun k i j z => (show (26 ≤ k ∧ k ≤ 33 ∧ i < 10) ∨ (k = 1 ∧ i = 2 ∧ j = 1) ∨ (k = 2 ∧ i = 2) ∨ (k = 16) ∨ (k = 17) ∨ (k = 18) from by omega))
      show wW (zK sc) zM85 63 [(0, .inr (.inr (.inl (some (19, 0))))), (1, .inr (.inr (.inl (some (26, u))))), (2, .inl x), (3, .inl z)] [] _ _ _
      exact ww_rV rfl rfl ⟨rfl, rfl, zB_mono hGm4 (by omega), hFm4, by trivial⟩
    · show wW (zK sc) zM85 12 [(0, .inr (.inr (.inl (some (19, 0))))), (1, .inr (.inr (.inl (some (26, u))))), (2, .inl x), (3, .inl z)] [] _ _ _
      refine ww_go 4 (pc' := 18) (L' := [(0, .inr (.inr (.inl (some (19, 0))))), (1, .inr (.inr (.inl (some (26, u))))), (2, .inl x), (3, .inl z)]) (st' := [.inr (.inr (.inl (some (26, u)))), .inl z, .inr (.inr (.inl (some (13, 0))))]) (m' := m) (o := some ((0 < 1))) rfl (show (0 < 1) from by omega) ?_
      refine ww_call (vs := [.inr (.inr (.inl (some (13, 0)))), .inl z, .inr (.inr (.inl (some (26, u))))]) (r := []) (p := 0 < 1) rfl rfl rfl rfl (show 0 < 1 from by omega) (zs120 (c := c) (by omega) z u hGm (by omega)) ?_
      rintro _ _ _ ⟨r5, rfl, rfl, rfl, hr6⟩
      show wW (zK sc) zM85 21 [(0, .inr (.inr (.inl (some (19, 0))))), (1, .inr (.inr (.inl (some (26, u))))), (2, .inl x), (3, .inl z)] [.inl r5] _ _ _
      refine ww_go 3 (pc' := 26) (L' := [(4, .inl r5), (0, .inr (.inr (.inl (some (19, 0))))), (1, .inr (.inr (.inl (some (26, u))))), (2, .inl x), (3, .inl z)]) (st' := [.inl ((-1)), .inl r5]) (m' := m) (o := none) rfl trivial ?_
      refine ww_ic (t := 52) rfl rfl (by omega) (fun (h7 : r5 = (-1)) => ?_) (fun (h7 : ¬ (r5 = (-1))) => ?_)
      · show wW (zK sc) zM85 52 [(4, .inl r5), (0, .inr (.inr (.inl (some (19, 0))))), (1, .inr (.inr (.inl (some (26, u))))), (2, .inl x), (3, .inl z)] [] _ _ _
        refine ww_go 2 (pc' := 7) (L' := [(3, .inl (z + 1)), (4, .inl r5), (0, .inr (.inr (.inl (some (19, 0))))), (1, .inr (.inr (.inl (some (26, u))))), (2, .inl x)]) (st' := []) (m' := m) (o := none) rfl trivial ?_
        refine ww_sub (L := [(0, .inr (.inr (.inl (some (19, 0))))), (1, .inr (.inr (.inl (some (26, u))))), (2, .inl x), (3, .inl (z + 1))]) ⟨rfl, rfl, rfl, rfl, trivial⟩ rfl rfl ?_
        exact (ih _ (by omega)) u (z + 1) m rfl (zB_mono hGm (by omega)) hFm (by omega)
      · show wW (zK sc) zM85 29 [(4, .inl r5), (0, .inr (.inr (.inl (some (19, 0))))), (1, .inr (.inr (.inl (some (26, u))))), (2, .inl x), (3, .inl z)] [] _ _ _
        refine ww_go 2 (pc' := 31) (L' := [(4, .inl r5), (0, .inr (.inr (.inl (some (19, 0))))), (1, .inr (.inr (.inl (some (26, u))))), (2, .inl x), (3, .inl z)]) (st' := [.inl 3, .inr (.inr (.inl (some (26, u))))]) (m' := m) (o := none) rfl trivial ?_
        refine ww_call (vs := [.inr (.inr (.inl (some (26, u)))), .inl 3]) (r := []) (p := u < 10) rfl rfl rfl rfl (show u < 10 from by omega) (zs137 (c := c) (by omega) 3 u hGm (by omega)) ?_
        rintro _ _ m10 ⟨rfl, rfl, hGm10, hEm10, hr9⟩
        have hFm10 : zfr (fun k i j => (26 ≤ k ∧ k ≤ 33 ∧ i < 10) ∨ (k = 1 ∧ i = 2 ∧ j = 1) ∨ (k = 2 ∧ i = 2) ∨ (k = 16) ∨ (k = 17) ∨ (k = 18)) m0 m10 := zfr_tr hFm hEm10 (fun k i j z => (show (26 ≤ k ∧ k ≤ 33 ∧ i < 10) ∨ (k = 1 ∧ i = 2 ∧ j = 1) ∨ (k = 2 ∧ i = 2) ∨ (k = 16) ∨ (k = 17) ∨ (k = 18) from by omega))
        show wW (zK sc) zM85 34 [(4, .inl r5), (0, .inr (.inr (.inl (some (19, 0))))), (1, .inr (.inr (.inl (some (26, u))))), (2, .inl x), (3, .inl z)] [] _ _ _
        refine ww_go 4 (pc' := 40) (L' := [(4, .inl r5), (0, .inr (.inr (.inl (some (19, 0))))), (1, .inr (.inr (.inl (some (26, u))))), (2, .inl x), (3, .inl z)]) (st' := [.inr (.inr (.inl (some (26, u)))), .inl x, .inr (.inr (.inl (some (16, 0))))]) (m' := m10) (o := some ((0 < 1))) rfl (show (0 < 1) from by omega) ?_
        refine ww_call (vs := [.inr (.inr (.inl (some (26, u))))]) (r := [.inl x, .inr (.inr (.inl (some (16, 0))))]) (p := u < 10) rfl rfl rfl rfl (show u < 10 from by omega) (zs155 (c := c) (by omega) u hGm10 (by omega)) ?_
        rintro _ _ _ ⟨r11, rfl, rfl, rfl, hr12⟩
        show wW (zK sc) zM85 43 [(4, .inl r5), (0, .inr (.inr (.inl (some (19, 0))))), (1, .inr (.inr (.inl (some (26, u))))), (2, .inl x), (3, .inl z)] [.inl r11, .inl x, .inr (.inr (.inl (some (16, 0))))] _ _ _
        refine ww_go 4 (pc' := 48) (L' := [(4, .inl r5), (0, .inr (.inr (.inl (some (19, 0))))), (1, .inr (.inr (.inl (some (26, u))))), (2, .inl x), (3, .inl z)]) (st' := [.inl r5, .inl (1 + z), .inl r11, .inl x, .inr (.inr (.inl (some (16, 0))))]) (m' := m10) (o := none) rfl trivial ?_
        refine ww_call (vs := [.inr (.inr (.inl (some (16, 0)))), .inl x, .inl r11, .inl (1 + z), .inl r5]) (r := []) (p := 0 < 1) rfl rfl rfl rfl (show 0 < 1 from by omega) (zs65 (c := c) (by omega) x r11 (1 + z) r5 hGm10 (by omega)) ?_
        rintro _ _ m15 ⟨rfl, rfl, hGm15, hEm15, hr14⟩
        have hFm15 : zfr (fun k i j => (26 ≤ k ∧ k ≤ 33 ∧ i < 10) ∨ (k = 1 ∧ i = 2 ∧ j = 1) ∨ (k = 2 ∧ i = 2) ∨ (k = 16) ∨ (k = 17) ∨ (k = 18)) m0 m15 := zfr_tr hFm10 hEm15 (fun k i j z => Or.elim z (fun z => Or.inr (Or.inl z)) (fun z => Or.elim z (fun z => Or.inr (Or.inr (Or.inl z))) (fun z => Or.elim z (fun z => Or.inr (Or.inr (Or.inr (Or.inl z)))) (fun z => Or.elim z (fun z => Or.inr (Or.inr (Or.inr (Or.inr (Or.inl z))))) (fun z => Or.inr (Or.inr (Or.inr (Or.inr (Or.inr (z))))))))))
        show wW (zK sc) zM85 51 [(4, .inl r5), (0, .inr (.inr (.inl (some (19, 0))))), (1, .inr (.inr (.inl (some (26, u))))), (2, .inl x), (3, .inl z)] [] _ _ _
        exact ww_rV rfl rfl ⟨rfl, rfl, zB_mono hGm15 (by omega), hFm15, by trivial⟩
set_option maxRecDepth 8000 in
/-- Receiver.judge -/
theorem zs85 {sc : xSc} {n : Nat × Nat} {m0 : wm} {c : Int} (hc : 0 ≤ c ∧ c ≤ 1000000) (x : Int) (q : Option (Nat × Nat)) (hG : zB c m0) (h0 : 0 ≤ x ∧ x ≤ 1) (hq : q = none ∨ ∃ e : Nat, q = some (26, e) ∧ e < 8) : wX (zK sc) 85 [.inr (.inr (.inl (some (19, 0)))), .inr (.inr (.inl q)), .inl x] n m0 (wr (fun vv n1 m1 => vv = none ∧ n = n1 ∧ zB (c + 1) m1 ∧ zfr (fun k i j => (26 ≤ k ∧ k ≤ 33 ∧ i < 10) ∨ (k = 1 ∧ i = 2 ∧ j = 1) ∨ (k = 2 ∧ i = 2) ∨ (k = 16) ∨ (k = 17) ∨ (k = 18)) m0 m1 ∧ True)) := by
  refine wX_of (N := zM85) rfl (Nat.le_of_ble_eq_true rfl) ?_
  show wW (zK sc) zM85 0 [(0, .inr (.inr (.inl (some (19, 0))))), (1, .inr (.inr (.inl q))), (2, .inl x)] [] n m0 _
  have hF : zfr (fun k i j => (26 ≤ k ∧ k ≤ 33 ∧ i < 10) ∨ (k = 1 ∧ i = 2 ∧ j = 1) ∨ (k = 2 ∧ i = 2) ∨ (k = 16) ∨ (k = 17) ∨ (k = 18)) m0 m0 := zfr_rf
  rcases hq with rfl | ⟨u9, rfl, hu9⟩
  · show wW (zK sc) zM85 0 [(0, .inr (.inr (.inl (some (19, 0))))), (1, .inr (.inr (.inl none))), (2, .inl x)] [] n m0 _
    refine ww_go 1 (pc' := 1) (L' := [(0, .inr (.inr (.inl (some (19, 0))))), (1, .inr (.inr (.inl none))), (2, .inl x)]) (st' := [.inr (.inr (.inl none))]) (m' := m0) (o := none) rfl trivial ?_
    refine ww_nn (t := 5) rfl rfl (fun zz9 h => by cases h) (fun h => ?_)
    show wW (zK sc) zM85 4 [(0, .inr (.inr (.inl (some (19, 0))))), (1, .inr (.inr (.inl none))), (2, .inl x)] [] _ _ _
    exact ww_rV rfl rfl ⟨rfl, rfl, zB_mono hG (by omega), hF, by trivial⟩
  · show wW (zK sc) zM85 0 [(0, .inr (.inr (.inl (some (19, 0))))), (1, .inr (.inr (.inl (some (26, u9))))), (2, .inl x)] [] n m0 _
    refine ww_go 1 (pc' := 1) (L' := [(0, .inr (.inr (.inl (some (19, 0))))), (1, .inr (.inr (.inl (some (26, u9))))), (2, .inl x)]) (st' := [.inr (.inr (.inl (some (26, u9))))]) (m' := m0) (o := none) rfl trivial ?_
    refine ww_nn (t := 5) rfl rfl (fun zz9 h => ?_) (fun h => by cases h)
    show wW (zK sc) zM85 5 [(0, .inr (.inr (.inl (some (19, 0))))), (1, .inr (.inr (.inl (some (26, u9))))), (2, .inl x)] [] _ _ _
    refine ww_go 2 (pc' := 7) (L' := [(3, .inl 0), (0, .inr (.inr (.inl (some (19, 0))))), (1, .inr (.inr (.inl (some (26, u9))))), (2, .inl x)]) (st' := []) (m' := m0) (o := none) rfl trivial ?_
    refine ww_sub (L := [(0, .inr (.inr (.inl (some (19, 0))))), (1, .inr (.inr (.inl (some (26, u9))))), (2, .inl x), (3, .inl 0)]) ⟨rfl, rfl, rfl, rfl, trivial⟩ rfl rfl ?_
    exact (zs85_l7 hc x (some (26, u9)) hG h0 (Or.inr ⟨_, rfl, hu9⟩) _) u9 0 m0 rfl (zB_mono hG (by omega)) hF (by omega)
set_option maxRecDepth 8000 in
/-- Receiver.stateOf -/
theorem zs102 {sc : xSc} {n : Nat × Nat} {m : wm} {c : Int} (hc : 0 ≤ c ∧ c ≤ 1000000) (x : Int) (y : Int) (hG : zB c m) (h0 : 0 ≤ x ∧ x ≤ 1 ∧ -2147483648 ≤ y ∧ y ≤ 2147483647) : wX (zK sc) 102 [.inr (.inr (.inl (some (19, 0)))), .inl x, .inl y] n m (wr (fun vv n1 m1 => ∃ r : Int, vv = some (.inl r) ∧ n = n1 ∧ m = m1 ∧ (0 ≤ r ∧ r ≤ 5))) := by
  refine wX_of (N := zM102) rfl (Nat.le_of_ble_eq_true rfl) ?_
  show wW (zK sc) zM102 0 [(0, .inr (.inr (.inl (some (19, 0))))), (1, .inl x), (2, .inl y)] [] n m _
  refine ww_go 4 (pc' := 6) (L' := [(0, .inr (.inr (.inl (some (19, 0))))), (1, .inl x), (2, .inl y)]) (st' := [.inr (.inr (.inl (some (26, 8 + x.toNat))))]) (m' := m) (o := some ((0 < 1) ∧ (0 < 1 ∧ 0 ≤ x ∧ x < ((2 : Nat) : Int)))) rfl (show (0 < 1) ∧ (0 < 1 ∧ 0 ≤ x ∧ x < ((2 : Nat) : Int)) from by omega) ?_
  refine ww_call (vs := [.inr (.inr (.inl (some (26, 8 + x.toNat))))]) (r := []) (p := 8 + x.toNat < 10) rfl rfl rfl rfl (show 8 + x.toNat < 10 from by omega) (zs155 (c := c) (by omega) (8 + x.toNat) hG (by omega)) ?_
  rintro _ _ _ ⟨r1, rfl, rfl, rfl, hr2⟩
  show wW (zK sc) zM102 9 [(0, .inr (.inr (.inl (some (19, 0))))), (1, .inl x), (2, .inl y)] [.inl r1] _ _ _
  refine ww_go 1 (pc' := 10) (L' := [(0, .inr (.inr (.inl (some (19, 0))))), (1, .inl x), (2, .inl y)]) (st' := [.inl y, .inl r1]) (m' := m) (o := none) rfl trivial ?_
  refine ww_ic (t := 15) rfl rfl (by omega) (fun (h3 : r1 ≠ y) => ?_) (fun (h3 : ¬ (r1 ≠ y)) => ?_)
  · show wW (zK sc) zM102 15 [(0, .inr (.inr (.inl (some (19, 0))))), (1, .inl x), (2, .inl y)] [] _ _ _
    refine ww_go 3 (pc' := 18) (L' := [(0, .inr (.inr (.inl (some (19, 0))))), (1, .inl x), (2, .inl y)]) (st' := [.inl y, .inl x, .inr (.inr (.inl (some (19, 0))))]) (m' := m) (o := none) rfl trivial ?_
    refine ww_call (vs := [.inr (.inr (.inl (some (19, 0)))), .inl x, .inl y]) (r := []) (p := 0 < 1) rfl rfl rfl rfl (show 0 < 1 from by omega) (zs79 (c := c) (by omega) x y hG (by omega)) ?_
    rintro _ _ _ ⟨r4, rfl, rfl, rfl, hr5⟩
    rcases hr5 with rfl | ⟨e6, rfl, hr7⟩
    · show wW (zK sc) zM102 21 [(0, .inr (.inr (.inl (some (19, 0))))), (1, .inl x), (2, .inl y)] [.inr (.inr (.inl none))] _ _ _
      refine ww_go 2 (pc' := 23) (L' := [(3, .inr (.inr (.inl none))), (0, .inr (.inr (.inl (some (19, 0))))), (1, .inl x), (2, .inl y)]) (st' := [.inr (.inr (.inl none))]) (m' := m) (o := none) rfl trivial ?_
      refine ww_nn (t := 30) rfl rfl (fun zz9 h => by cases h) (fun h => ?_)
      show wW (zK sc) zM102 26 [(3, .inr (.inr (.inl none))), (0, .inr (.inr (.inl (some (19, 0))))), (1, .inl x), (2, .inl y)] [] _ _ _
      refine ww_go 2 (pc' := 34) (L' := [(3, .inr (.inr (.inl none))), (0, .inr (.inr (.inl (some (19, 0))))), (1, .inl x), (2, .inl y)]) (st' := [.inl 0]) (m' := m) (o := none) rfl trivial ?_
      exact ww_rI rfl rfl ⟨_, rfl, rfl, rfl, by omega⟩
    · show wW (zK sc) zM102 21 [(0, .inr (.inr (.inl (some (19, 0))))), (1, .inl x), (2, .inl y)] [.inr (.inr (.inl (some (26, e6))))] _ _ _
      refine ww_go 2 (pc' := 23) (L' := [(3, .inr (.inr (.inl (some (26, e6))))), (0, .inr (.inr (.inl (some (19, 0))))), (1, .inl x), (2, .inl y)]) (st' := [.inr (.inr (.inl (some (26, e6))))]) (m' := m) (o := none) rfl trivial ?_
      refine ww_nn (t := 30) rfl rfl (fun zz9 h => ?_) (fun h => by cases h)
      show wW (zK sc) zM102 30 [(3, .inr (.inr (.inl (some (26, e6))))), (0, .inr (.inr (.inl (some (19, 0))))), (1, .inl x), (2, .inl y)] [] _ _ _
      refine ww_go 1 (pc' := 31) (L' := [(3, .inr (.inr (.inl (some (26, e6))))), (0, .inr (.inr (.inl (some (19, 0))))), (1, .inl x), (2, .inl y)]) (st' := [.inr (.inr (.inl (some (26, e6))))]) (m' := m) (o := none) rfl trivial ?_
      refine ww_call (vs := [.inr (.inr (.inl (some (26, e6))))]) (r := []) (p := e6 < 10) rfl rfl rfl rfl (show e6 < 10 from by omega) (zs159 (c := c) (by omega) e6 hG (by omega)) ?_
      rintro _ _ _ ⟨r8, rfl, rfl, rfl, hr9⟩
      show wW (zK sc) zM102 34 [(3, .inr (.inr (.inl (some (26, e6))))), (0, .inr (.inr (.inl (some (19, 0))))), (1, .inl x), (2, .inl y)] [.inl r8] _ _ _
      exact ww_rI rfl rfl ⟨_, rfl, rfl, rfl, by omega⟩
  · show wW (zK sc) zM102 13 [(0, .inr (.inr (.inl (some (19, 0))))), (1, .inl x), (2, .inl y)] [] _ _ _
    refine ww_go 1 (pc' := 14) (L' := [(0, .inr (.inr (.inl (some (19, 0))))), (1, .inl x), (2, .inl y)]) (st' := [.inl 4]) (m' := m) (o := none) rfl trivial ?_
    exact ww_rI rfl rfl ⟨_, rfl, rfl, rfl, by omega⟩
set_option maxRecDepth 8000 in
/-- Receiver.rowsOf -/
theorem zs100 {sc : xSc} {n : Nat × Nat} {m : wm} {c : Int} (hc : 0 ≤ c ∧ c ≤ 1000000) (x : Int) (y : Int) (z : Int) (b : Int) (hG : zB c m) (h0 : 0 ≤ x ∧ x ≤ 1 ∧ 0 ≤ y ∧ y ≤ 65535 ∧ 0 ≤ z ∧ z ≤ 6 ∧ 0 ≤ b ∧ b ≤ 1) : wX (zK sc) 100 [.inr (.inr (.inl (some (19, 0)))), .inl x, .inl y, .inl z, .inl b] n m (wr (fun vv n1 m1 => ∃ r : Int, vv = some (.inl r) ∧ n = n1 ∧ m = m1 ∧ (0 ≤ r ∧ r ≤ 24))) := by
  refine wX_of (N := zM100) rfl (Nat.le_of_ble_eq_true rfl) ?_
  show wW (zK sc) zM100 0 [(0, .inr (.inr (.inl (some (19, 0))))), (1, .inl x), (2, .inl y), (3, .inl z), (4, .inl b)] [] n m _
  refine ww_go 3 (pc' := 3) (L' := [(0, .inr (.inr (.inl (some (19, 0))))), (1, .inl x), (2, .inl y), (3, .inl z), (4, .inl b)]) (st' := [.inl y, .inl x, .inr (.inr (.inl (some (19, 0))))]) (m' := m) (o := none) rfl trivial ?_
  refine ww_call (vs := [.inr (.inr (.inl (some (19, 0)))), .inl x, .inl y]) (r := []) (p := 0 < 1) rfl rfl rfl rfl (show 0 < 1 from by omega) (zs79 (c := c) (by omega) x y hG (by omega)) ?_
  rintro _ _ _ ⟨r1, rfl, rfl, rfl, hr2⟩
  rcases hr2 with rfl | ⟨e3, rfl, hr4⟩
  · show wW (zK sc) zM100 6 [(0, .inr (.inr (.inl (some (19, 0))))), (1, .inl x), (2, .inl y), (3, .inl z), (4, .inl b)] [.inr (.inr (.inl none))] _ _ _
    refine ww_go 2 (pc' := 10) (L' := [(5, .inr (.inr (.inl none))), (0, .inr (.inr (.inl (some (19, 0))))), (1, .inl x), (2, .inl y), (3, .inl z), (4, .inl b)]) (st' := [.inr (.inr (.inl none))]) (m' := m) (o := none) rfl trivial ?_
    refine ww_nn (t := 15) rfl rfl (fun zz9 h => by cases h) (fun h => ?_)
    show wW (zK sc) zM100 13 [(5, .inr (.inr (.inl none))), (0, .inr (.inr (.inl (some (19, 0))))), (1, .inl x), (2, .inl y), (3, .inl z), (4, .inl b)] [] _ _ _
    refine ww_go 1 (pc' := 14) (L' := [(5, .inr (.inr (.inl none))), (0, .inr (.inr (.inl (some (19, 0))))), (1, .inl x), (2, .inl y), (3, .inl z), (4, .inl b)]) (st' := [.inl 0]) (m' := m) (o := none) rfl trivial ?_
    exact ww_rI rfl rfl ⟨_, rfl, rfl, rfl, by omega⟩
  · show wW (zK sc) zM100 6 [(0, .inr (.inr (.inl (some (19, 0))))), (1, .inl x), (2, .inl y), (3, .inl z), (4, .inl b)] [.inr (.inr (.inl (some (26, e3))))] _ _ _
    refine ww_go 2 (pc' := 10) (L' := [(5, .inr (.inr (.inl (some (26, e3))))), (0, .inr (.inr (.inl (some (19, 0))))), (1, .inl x), (2, .inl y), (3, .inl z), (4, .inl b)]) (st' := [.inr (.inr (.inl (some (26, e3))))]) (m' := m) (o := none) rfl trivial ?_
    refine ww_nn (t := 15) rfl rfl (fun zz9 h => ?_) (fun h => by cases h)
    show wW (zK sc) zM100 15 [(5, .inr (.inr (.inl (some (26, e3))))), (0, .inr (.inr (.inl (some (19, 0))))), (1, .inl x), (2, .inl y), (3, .inl z), (4, .inl b)] [] _ _ _
    refine ww_go 3 (pc' := 20) (L' := [(5, .inr (.inr (.inl (some (26, e3))))), (0, .inr (.inr (.inl (some (19, 0))))), (1, .inl x), (2, .inl y), (3, .inl z), (4, .inl b)]) (st' := [.inl b, .inl z, .inr (.inr (.inl (some (26, e3))))]) (m' := m) (o := none) rfl trivial ?_
    refine ww_call (vs := [.inr (.inr (.inl (some (26, e3)))), .inl z, .inl b]) (r := []) (p := e3 < 10) rfl rfl rfl rfl (show e3 < 10 from by omega) (zs150 (c := c) (by omega) z b e3 hG (by omega)) ?_
    rintro _ _ _ ⟨r5, rfl, rfl, rfl, hr6⟩
    show wW (zK sc) zM100 23 [(5, .inr (.inr (.inl (some (26, e3))))), (0, .inr (.inr (.inl (some (19, 0))))), (1, .inl x), (2, .inl y), (3, .inl z), (4, .inl b)] [.inl r5] _ _ _
    refine ww_if (t := 29) rfl rfl (by omega) (fun (h7 : r5 = 0) => ?_) (fun (h7 : ¬ (r5 = 0)) => ?_)
    · show wW (zK sc) zM100 29 [(5, .inr (.inr (.inl (some (26, e3))))), (0, .inr (.inr (.inl (some (19, 0))))), (1, .inl x), (2, .inl y), (3, .inl z), (4, .inl b)] [] _ _ _
      refine ww_go 2 (pc' := 31) (L' := [(5, .inr (.inr (.inl (some (26, e3))))), (0, .inr (.inr (.inl (some (19, 0))))), (1, .inl x), (2, .inl y), (3, .inl z), (4, .inl b)]) (st' := [.inl y, .inl x]) (m' := m) (o := none) rfl trivial ?_
      refine ww_call (vs := [.inl x, .inl y]) (r := []) (p := True) rfl rfl rfl rfl trivial (zs113 x y (by omega)) ?_
      rintro _ _ _ ⟨r8, rfl, rfl, rfl, hr9⟩
      show wW (zK sc) zM100 34 [(5, .inr (.inr (.inl (some (26, e3))))), (0, .inr (.inr (.inl (some (19, 0))))), (1, .inl x), (2, .inl y), (3, .inl z), (4, .inl b)] [.inl r8] _ _ _
      refine ww_go 2 (pc' := 37) (L' := [(5, .inr (.inr (.inl (some (26, e3))))), (0, .inr (.inr (.inl (some (19, 0))))), (1, .inl x), (2, .inl y), (3, .inl z), (4, .inl b)]) (st' := [.inl b, .inl z, .inl r8]) (m' := m) (o := none) rfl trivial ?_
      refine ww_call (vs := [.inl r8, .inl z, .inl b]) (r := []) (p := True) rfl rfl rfl rfl trivial (zs111 r8 z b (by omega)) ?_
      rintro _ _ _ ⟨r10, rfl, rfl, rfl, hr11⟩
      show wW (zK sc) zM100 40 [(5, .inr (.inr (.inl (some (26, e3))))), (0, .inr (.inr (.inl (some (19, 0))))), (1, .inl x), (2, .inl y), (3, .inl z), (4, .inl b)] [.inl r10] _ _ _
      refine ww_go 5 (pc' := 50) (L' := [(6, .inl r10), (5, .inr (.inr (.inl (some (26, e3))))), (0, .inr (.inr (.inl (some (19, 0))))), (1, .inl x), (2, .inl y), (3, .inl z), (4, .inl b)]) (st' := [.inl r10, .inl r10, .inr (.inr (.inl (some (22, 0))))]) (m' := m) (o := some ((0 < 1))) rfl (show (0 < 1) from by omega) ?_
      refine ww_call (vs := [.inr (.inr (.inl (some (22, 0)))), .inl r10, .inl r10]) (r := []) (p := 0 < 1) rfl rfl rfl rfl (show 0 < 1 from by omega) (zs116 (c := c) (by omega) r10 r10 hG (by omega)) ?_
      rintro _ _ _ ⟨r12, rfl, rfl, rfl, hr13⟩
      show wW (zK sc) zM100 53 [(6, .inl r10), (5, .inr (.inr (.inl (some (26, e3))))), (0, .inr (.inr (.inl (some (19, 0))))), (1, .inl x), (2, .inl y), (3, .inl z), (4, .inl b)] [.inl r12] _ _ _
      exact ww_rI rfl rfl ⟨_, rfl, rfl, rfl, by omega⟩
    · show wW (zK sc) zM100 26 [(5, .inr (.inr (.inl (some (26, e3))))), (0, .inr (.inr (.inl (some (19, 0))))), (1, .inl x), (2, .inl y), (3, .inl z), (4, .inl b)] [] _ _ _
      refine ww_go 1 (pc' := 28) (L' := [(5, .inr (.inr (.inl (some (26, e3))))), (0, .inr (.inr (.inl (some (19, 0))))), (1, .inl x), (2, .inl y), (3, .inl z), (4, .inl b)]) (st' := [.inl 8]) (m' := m) (o := none) rfl trivial ?_
      exact ww_rI rfl rfl ⟨_, rfl, rfl, rfl, by omega⟩
