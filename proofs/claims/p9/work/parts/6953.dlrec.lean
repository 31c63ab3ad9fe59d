set_option maxRecDepth 8000 in
/-- Dl.hear -/
theorem yt10 {sc : xSc} {n : Nat × Nat} {m0 : wm} {c : Int} (hn : n.1 < 2300) (hc : 0 ≤ c ∧ c ≤ 970000) (x : Int) (hG : zB c m0) (h0 : -2147483648 ≤ x ∧ x ≤ 2147483647) (hE : zCe m0) : wX (zK sc) 10 [.inr (.inr (.inl (some (0, 0)))), .inl x] n m0 (fun o n1 m1 => zB (c + 4) m1 ∧ zfr (fun k i j => (k = 22) ∨ (k = 23) ∨ (k = 24) ∨ (k = 25) ∨ (k = 1 ∧ 101 ≤ i ∧ i < 171 ∧ j = 1) ∨ (k = 2 ∧ 101 ≤ i ∧ i < 171) ∨ (26 ≤ k ∧ k ≤ 33 ∧ i < 10) ∨ (k = 1 ∧ i = 2 ∧ j = 1) ∨ (k = 2 ∧ i = 2) ∨ (k = 16) ∨ (k = 17) ∨ (k = 18) ∨ (k = 19)) m0 m1 ∧ ((∃ r : Int, o = .inl (some (.inl r)) ∧ n = n1 ∧ (0 ≤ x ∧ x ≤ 31 ∧ 1 ≤ m0.1 1 (3 + x.toNat) 1 ∧ zLsn m0 m1 (3 + x.toNat) r)) ∨ (∃ q : Nat, o = .inr q ∧ (n.1 + 1, n.2 + 6) = n1 ∧ (q = 0 ∧ ¬ (0 ≤ x ∧ x ≤ 31 ∧ 1 ≤ m0.1 1 (3 + x.toNat) 1) ∧ m0 = m1)))) := by
  refine wX_of (N := zM10) rfl (Nat.le_of_ble_eq_true rfl) ?_
  show wW (zK sc) zM10 0 [(0, .inr (.inr (.inl (some (0, 0))))), (1, .inl x)] [] n m0 _
  have hF : zfr (fun k i j => (k = 22) ∨ (k = 23) ∨ (k = 24) ∨ (k = 25) ∨ (k = 1 ∧ 101 ≤ i ∧ i < 171 ∧ j = 1) ∨ (k = 2 ∧ 101 ≤ i ∧ i < 171) ∨ (26 ≤ k ∧ k ≤ 33 ∧ i < 10) ∨ (k = 1 ∧ i = 2 ∧ j = 1) ∨ (k = 2 ∧ i = 2) ∨ (k = 16) ∨ (k = 17) ∨ (k = 18) ∨ (k = 19)) m0 m0 := zfr_rf
  have bz : 0 ≤ m0.1 1 (3 + x.toNat) 1 ∧ m0.1 1 (3 + x.toNat) 1 ≤ ((zlim (3 + x.toNat) : Nat) : Int) := hG.1 1 _ rfl _ _
  refine ww_go 2 (pc' := 2) (L' := [(0, .inr (.inr (.inl (some (0, 0))))), (1, .inl x)]) (st' := [.inl x, .inr (.inr (.inl (some (0, 0))))]) (m' := m0) (o := none) rfl trivial ?_
  refine ww_callT (vs := [.inr (.inr (.inl (some (0, 0)))), .inl x]) (r := []) (p := 0 < 1) rfl rfl rfl rfl (show 0 < 1 from by omega) (fun h => h.elim (fun z => Bool.noConfusion (show false = true from z)) (fun z => Bool.noConfusion (show true = false from z))) rfl (zs3 (c := c) hn (by omega) x hG (by omega)) (fun vq nq m1 hq => ?_) (fun kq nq m1 hq => ?_)
  · obtain ⟨hGm1, hEm1, hq⟩ := hq
    rcases hq with ⟨hv, rfl, hr2⟩ | ⟨q9, hv, _⟩
    · obtain rfl := Sum.inl.inj hv
      have hFm1 : zfr (fun k i j => (k = 22) ∨ (k = 23) ∨ (k = 24) ∨ (k = 25) ∨ (k = 1 ∧ 101 ≤ i ∧ i < 171 ∧ j = 1) ∨ (k = 2 ∧ 101 ≤ i ∧ i < 171) ∨ (26 ≤ k ∧ k ≤ 33 ∧ i < 10) ∨ (k = 1 ∧ i = 2 ∧ j = 1) ∨ (k = 2 ∧ i = 2) ∨ (k = 16) ∨ (k = 17) ∨ (k = 18) ∨ (k = 19)) m0 m1 := zfr_tr hF hEm1 (fun k i j z => False.elim z)
      show wW (zK sc) zM10 5 [(0, .inr (.inr (.inl (some (0, 0))))), (1, .inl x)] [] _ _ _
      refine ww_go 6 (pc' := 15) (L' := [(0, .inr (.inr (.inl (some (0, 0))))), (1, .inl x)]) (st' := [.inr (.inr (.inl (some (1, 3 + x.toNat)))), .inr (.inr (.inl (some (19, 0))))]) (m' := m1) (o := some ((0 < 1) ∧ (0 < 1) ∧ (0 < 1 ∧ 0 ≤ x ∧ x < ((32 : Nat) : Int)))) rfl (show (0 < 1) ∧ (0 < 1) ∧ (0 < 1 ∧ 0 ≤ x ∧ x < ((32 : Nat) : Int)) from by omega) ?_
      refine ww_call (vs := [.inr (.inr (.inl (some (19, 0)))), .inr (.inr (.inl (some (1, 3 + x.toNat))))]) (r := []) (p := 0 < 1) rfl rfl rfl rfl (show 0 < 1 from by omega) (yt92 (c := c) (by omega) (3 + x.toNat) hGm1 (by omega) (by rw [← zfr_eq hEm1]; exact hE)) ?_
      rintro _ _ m6 ⟨r4, rfl, rfl, hGm6, hEm6, hr5⟩
      have hFm6 : zfr (fun k i j => (k = 22) ∨ (k = 23) ∨ (k = 24) ∨ (k = 25) ∨ (k = 1 ∧ 101 ≤ i ∧ i < 171 ∧ j = 1) ∨ (k = 2 ∧ 101 ≤ i ∧ i < 171) ∨ (26 ≤ k ∧ k ≤ 33 ∧ i < 10) ∨ (k = 1 ∧ i = 2 ∧ j = 1) ∨ (k = 2 ∧ i = 2) ∨ (k = 16) ∨ (k = 17) ∨ (k = 18) ∨ (k = 19)) m0 m6 := zfr_tr hFm1 hEm6 (fun k i j z => Or.elim z (fun z => Or.inl z) (fun z => Or.elim z (fun z => Or.inr (Or.inl z)) (fun z => Or.elim z (fun z => Or.inr (Or.inr (Or.inl z))) (fun z => Or.elim z (fun z => Or.inr (Or.inr (Or.inr (Or.inl z)))) (fun z => Or.elim z (fun z => Or.inr (Or.inr (Or.inr (Or.inr (Or.inl z))))) (fun z => Or.elim z (fun z => Or.inr (Or.inr (Or.inr (Or.inr (Or.inr (Or.inl z)))))) (fun z => Or.elim z (fun z => Or.inr (Or.inr (Or.inr (Or.inr (Or.inr (Or.inr (Or.inl z))))))) (fun z => Or.elim z (fun z => Or.inr (Or.inr (Or.inr (Or.inr (Or.inr (Or.inr (Or.inr (Or.inl z)))))))) (fun z => Or.elim z (fun z => Or.inr (Or.inr (Or.inr (Or.inr (Or.inr (Or.inr (Or.inr (Or.inr (Or.inl z))))))))) (fun z => Or.elim z (fun z => Or.inr (Or.inr (Or.inr (Or.inr (Or.inr (Or.inr (Or.inr (Or.inr (Or.inr (Or.inl z)))))))))) (fun z => Or.elim z (fun z => Or.inr (Or.inr (Or.inr (Or.inr (Or.inr (Or.inr (Or.inr (Or.inr (Or.inr (Or.inr (Or.inl z))))))))))) (fun z => Or.elim z (fun z => Or.inr (Or.inr (Or.inr (Or.inr (Or.inr (Or.inr (Or.inr (Or.inr (Or.inr (Or.inr (Or.inr (Or.inl z)))))))))))) (fun z => Or.inr (Or.inr (Or.inr (Or.inr (Or.inr (Or.inr (Or.inr (Or.inr (Or.inr (Or.inr (Or.inr (Or.inr (z)))))))))))))))))))))))))
      show wW (zK sc) zM10 18 [(0, .inr (.inr (.inl (some (0, 0))))), (1, .inl x)] [.inl r4] _ _ _
      exact ww_rI rfl rfl ⟨zB_mono hGm6 (by omega), hFm6, Or.inl ⟨_, rfl, rfl, ⟨by omega, by omega, by omega, (by have z9 := hr5.2; rw [← zfr_eq hEm1] at z9; exact z9)⟩⟩⟩
    · cases hv
  · obtain ⟨hGm1, hEm1, hq⟩ := hq
    rcases hq with ⟨hv, _⟩ | ⟨q9, hv, rfl, hr2⟩
    · cases hv
    · obtain rfl := Sum.inr.inj hv
      have hFm1 : zfr (fun k i j => (k = 22) ∨ (k = 23) ∨ (k = 24) ∨ (k = 25) ∨ (k = 1 ∧ 101 ≤ i ∧ i < 171 ∧ j = 1) ∨ (k = 2 ∧ 101 ≤ i ∧ i < 171) ∨ (26 ≤ k ∧ k ≤ 33 ∧ i < 10) ∨ (k = 1 ∧ i = 2 ∧ j = 1) ∨ (k = 2 ∧ i = 2) ∨ (k = 16) ∨ (k = 17) ∨ (k = 18) ∨ (k = 19)) m0 m1 := zfr_tr hF hEm1 (fun k i j z => False.elim z)
      exact ⟨zB_mono hGm1 (by omega), hFm1, Or.inr ⟨_, rfl, rfl, ⟨by omega, by omega, zfr_eq hEm1⟩⟩⟩
set_option maxRecDepth 8000 in
/-- Dl.restartReceiver -/
theorem yt19 {sc : xSc} {n : Nat × Nat} {m0 : wm} {c : Int} (hc : 0 ≤ c ∧ c ≤ 1000000)  (hG : zB c m0) : wX (zK sc) 19 [.inr (.inr (.inl (some (0, 0))))] n m0 (wr (fun vv n1 m1 => vv = none ∧ n = n1 ∧ zB c m1 ∧ zfr (fun k i j => (k = 22 ∧ j = 3)) m0 m1 ∧ (m1.1 22 0 3 = 0))) := by
  refine wX_of (N := zM19) rfl (Nat.le_of_ble_eq_true rfl) ?_
  show wW (zK sc) zM19 0 [(0, .inr (.inr (.inl (some (0, 0)))))] [] n m0 _
  have hF : zfr (fun k i j => (k = 22 ∧ j = 3)) m0 m0 := zfr_rf
  refine ww_go 2 (pc' := 4) (L' := [(0, .inr (.inr (.inl (some (0, 0)))))]) (st' := [.inr (.inr (.inl (some (19, 0))))]) (m' := m0) (o := some ((0 < 1))) rfl (show (0 < 1) from by omega) ?_
  refine ww_call (vs := [.inr (.inr (.inl (some (19, 0))))]) (r := []) (p := 0 < 1) rfl rfl rfl rfl (show 0 < 1 from by omega) (yt95 (c := c) (by omega) hG) ?_
  rintro _ _ m3 ⟨rfl, rfl, hGm3, hEm3, hr2⟩
  have hFm3 : zfr (fun k i j => (k = 22 ∧ j = 3)) m0 m3 := zfr_tr hF hEm3 (fun k i j z => z)
  show wW (zK sc) zM19 7 [(0, .inr (.inr (.inl (some (0, 0)))))] [] _ _ _
  exact ww_rV rfl rfl ⟨rfl, rfl, zB_mono hGm3 (by omega), hFm3, hr2⟩
set_option maxRecDepth 8000 in
/-- Dl.checkVersion -/
theorem yt4 {sc : xSc} {n : Nat × Nat} {m0 : wm} {c : Int} (hn : n.1 < 2300) (hc : 0 ≤ c ∧ c ≤ 1000000) (x : Int) (y : Int) (hG : zB c m0) (h0 : -2147483648 ≤ x ∧ x ≤ 2147483647 ∧ -2147483648 ≤ y ∧ y ≤ 2147483647) : wX (zK sc) 4 [.inl x, .inl y] n m0 (fun o n1 m1 => zB c m1 ∧ zfr (fun k i j => False) m0 m1 ∧ ((o = .inl none ∧ n = n1 ∧ (0 ≤ x ∧ x ≤ 1 ∧ 1 ≤ y ∧ y ≤ 65535)) ∨ (∃ q : Nat, o = .inr q ∧ (n.1 + 1, n.2 + 6) = n1 ∧ (q = 0 ∧ ¬ (0 ≤ x ∧ x ≤ 1 ∧ 1 ≤ y ∧ y ≤ 65535))))) := by
  refine wX_of (N := zM4) rfl (Nat.le_of_ble_eq_true rfl) ?_
  show wW (zK sc) zM4 0 [(0, .inl x), (1, .inl y)] [] n m0 _
  have hF : zfr (fun k i j => False) m0 m0 := zfr_rf
  refine ww_go 1 (pc' := 1) (L' := [(0, .inl x), (1, .inl y)]) (st' := [.inl x]) (m' := m0) (o := none) rfl trivial ?_
  refine ww_call (vs := [.inl x]) (r := []) (p := True) rfl rfl rfl rfl trivial (zs11 x (by omega)) ?_
  rintro _ _ _ ⟨r1, rfl, rfl, rfl, hr2⟩
  show wW (zK sc) zM4 4 [(0, .inl x), (1, .inl y)] [.inl r1] _ _ _
  refine ww_if (t := 18) rfl rfl (by omega) (fun (h3 : r1 = 0) => ?_) (fun (h3 : ¬ (r1 = 0)) => ?_)
  · show wW (zK sc) zM4 18 [(0, .inl x), (1, .inl y)] [] _ _ _
    exact ww_thr rfl rfl (by decide) rfl (Nat.le_of_ble_eq_true rfl) rfl (by omega) ⟨zB_mono hG (by omega), hF, Or.inr ⟨_, rfl, rfl, by omega⟩⟩
  · show wW (zK sc) zM4 7 [(0, .inl x), (1, .inl y)] [] _ _ _
    refine ww_go 2 (pc' := 9) (L' := [(0, .inl x), (1, .inl y)]) (st' := [.inl 1, .inl y]) (m' := m0) (o := none) rfl trivial ?_
    refine ww_ic (t := 18) rfl rfl (by omega) (fun (h4 : y < 1) => ?_) (fun (h4 : ¬ (y < 1)) => ?_)
    · show wW (zK sc) zM4 18 [(0, .inl x), (1, .inl y)] [] _ _ _
      exact ww_thr rfl rfl (by decide) rfl (Nat.le_of_ble_eq_true rfl) rfl (by omega) ⟨zB_mono hG (by omega), hF, Or.inr ⟨_, rfl, rfl, by omega⟩⟩
    · show wW (zK sc) zM4 12 [(0, .inl x), (1, .inl y)] [] _ _ _
      refine ww_go 2 (pc' := 15) (L' := [(0, .inl x), (1, .inl y)]) (st' := [.inl 65535, .inl y]) (m' := m0) (o := none) rfl trivial ?_
      refine ww_ic (t := 28) rfl rfl (by omega) (fun (h5 : y ≤ 65535) => ?_) (fun (h5 : ¬ (y ≤ 65535)) => ?_)
      · show wW (zK sc) zM4 28 [(0, .inl x), (1, .inl y)] [] _ _ _
        exact ww_rV rfl rfl ⟨zB_mono hG (by omega), hF, Or.inl ⟨rfl, rfl, by omega⟩⟩
      · show wW (zK sc) zM4 18 [(0, .inl x), (1, .inl y)] [] _ _ _
        exact ww_thr rfl rfl (by decide) rfl (Nat.le_of_ble_eq_true rfl) rfl (by omega) ⟨zB_mono hG (by omega), hF, Or.inr ⟨_, rfl, rfl, by omega⟩⟩
set_option maxRecDepth 8000 in
/-- Dl.rank -/
theorem yt15 {sc : xSc} {n : Nat × Nat} {m0 : wm} {c : Int} (hn : n.1 < 2300) (hc : 0 ≤ c ∧ c ≤ 1000000) (x : Int) (y : Int) (z : Int) (b : Int) (hG : zB c m0) (h0 : -2147483648 ≤ x ∧ x ≤ 2147483647 ∧ -2147483648 ≤ y ∧ y ≤ 2147483647 ∧ -2147483648 ≤ z ∧ z ≤ 2147483647 ∧ -2147483648 ≤ b ∧ b ≤ 2147483647) : wX (zK sc) 15 [.inr (.inr (.inl (some (0, 0)))), .inl x, .inl y, .inl z, .inl b] n m0 (fun o n1 m1 => zB c m1 ∧ zfr (fun k i j => False) m0 m1 ∧ ((∃ r : Int, o = .inl (some (.inl r)) ∧ n = n1 ∧ ((0 ≤ x ∧ x ≤ 1 ∧ 1 ≤ y ∧ y ≤ 65535 ∧ 0 ≤ z ∧ z ≤ 6 ∧ 0 ≤ b ∧ b ≤ 1) ∧ zRof m0 x y z b r)) ∨ (∃ q : Nat, o = .inr q ∧ (n.1 + 1, n.2 + 6) = n1 ∧ (q = 0 ∧ ¬ (0 ≤ x ∧ x ≤ 1 ∧ 1 ≤ y ∧ y ≤ 65535 ∧ 0 ≤ z ∧ z ≤ 6 ∧ 0 ≤ b ∧ b ≤ 1))))) := by
  refine wX_of (N := zM15) rfl (Nat.le_of_ble_eq_true rfl) ?_
  show wW (zK sc) zM15 0 [(0, .inr (.inr (.inl (some (0, 0))))), (1, .inl x), (2, .inl y), (3, .inl z), (4, .inl b)] [] n m0 _
  have hF : zfr (fun k i j => False) m0 m0 := zfr_rf
  refine ww_go 2 (pc' := 2) (L' := [(0, .inr (.inr (.inl (some (0, 0))))), (1, .inl x), (2, .inl y), (3, .inl z), (4, .inl b)]) (st' := [.inl y, .inl x]) (m' := m0) (o := none) rfl trivial ?_
  refine ww_callT (vs := [.inl x, .inl y]) (r := []) (p := True) rfl rfl rfl rfl trivial (fun h => h.elim (fun z => Bool.noConfusion (show false = true from z)) (fun z => Bool.noConfusion (show true = false from z))) rfl (yt4 (c := c) hn (by omega) x y hG (by omega)) (fun vq nq m1 hq => ?_) (fun kq nq m1 hq => ?_)
  · obtain ⟨hGm1, hEm1, hq⟩ := hq
    rcases hq with ⟨hv, rfl, hr2⟩ | ⟨q9, hv, _⟩
    · obtain rfl := Sum.inl.inj hv
      have hFm1 : zfr (fun k i j => False) m0 m1 := zfr_tr hF hEm1 (fun k i j z => False.elim z)
      show wW (zK sc) zM15 5 [(0, .inr (.inr (.inl (some (0, 0))))), (1, .inl x), (2, .inl y), (3, .inl z), (4, .inl b)] [] _ _ _
      refine ww_go 1 (pc' := 6) (L' := [(0, .inr (.inr (.inl (some (0, 0))))), (1, .inl x), (2, .inl y), (3, .inl z), (4, .inl b)]) (st' := [.inl z]) (m' := m1) (o := none) rfl trivial ?_
      refine ww_if (t := 26) rfl rfl (by omega) (fun (h4 : z < 0) => ?_) (fun (h4 : ¬ (z < 0)) => ?_)
      · show wW (zK sc) zM15 26 [(0, .inr (.inr (.inl (some (0, 0))))), (1, .inl x), (2, .inl y), (3, .inl z), (4, .inl b)] [] _ _ _
        exact ww_thr rfl rfl (by decide) rfl (Nat.le_of_ble_eq_true rfl) rfl (by omega) ⟨zB_mono hGm1 (by omega), hFm1, Or.inr ⟨_, rfl, rfl, by omega⟩⟩
      · show wW (zK sc) zM15 9 [(0, .inr (.inr (.inl (some (0, 0))))), (1, .inl x), (2, .inl y), (3, .inl z), (4, .inl b)] [] _ _ _
        refine ww_go 2 (pc' := 12) (L' := [(0, .inr (.inr (.inl (some (0, 0))))), (1, .inl x), (2, .inl y), (3, .inl z), (4, .inl b)]) (st' := [.inl 7, .inl z]) (m' := m1) (o := none) rfl trivial ?_
        refine ww_ic (t := 26) rfl rfl (by omega) (fun (h5 : 7 ≤ z) => ?_) (fun (h5 : ¬ (7 ≤ z)) => ?_)
        · show wW (zK sc) zM15 26 [(0, .inr (.inr (.inl (some (0, 0))))), (1, .inl x), (2, .inl y), (3, .inl z), (4, .inl b)] [] _ _ _
          exact ww_thr rfl rfl (by decide) rfl (Nat.le_of_ble_eq_true rfl) rfl (by omega) ⟨zB_mono hGm1 (by omega), hFm1, Or.inr ⟨_, rfl, rfl, by omega⟩⟩
        · show wW (zK sc) zM15 15 [(0, .inr (.inr (.inl (some (0, 0))))), (1, .inl x), (2, .inl y), (3, .inl z), (4, .inl b)] [] _ _ _
          refine ww_go 1 (pc' := 17) (L' := [(0, .inr (.inr (.inl (some (0, 0))))), (1, .inl x), (2, .inl y), (3, .inl z), (4, .inl b)]) (st' := [.inl b]) (m' := m1) (o := none) rfl trivial ?_
          refine ww_if (t := 26) rfl rfl (by omega) (fun (h6 : b < 0) => ?_) (fun (h6 : ¬ (b < 0)) => ?_)
          · show wW (zK sc) zM15 26 [(0, .inr (.inr (.inl (some (0, 0))))), (1, .inl x), (2, .inl y), (3, .inl z), (4, .inl b)] [] _ _ _
            exact ww_thr rfl rfl (by decide) rfl (Nat.le_of_ble_eq_true rfl) rfl (by omega) ⟨zB_mono hGm1 (by omega), hFm1, Or.inr ⟨_, rfl, rfl, by omega⟩⟩
          · show wW (zK sc) zM15 20 [(0, .inr (.inr (.inl (some (0, 0))))), (1, .inl x), (2, .inl y), (3, .inl z), (4, .inl b)] [] _ _ _
            refine ww_go 2 (pc' := 23) (L' := [(0, .inr (.inr (.inl (some (0, 0))))), (1, .inl x), (2, .inl y), (3, .inl z), (4, .inl b)]) (st' := [.inl 2, .inl b]) (m' := m1) (o := none) rfl trivial ?_
            refine ww_ic (t := 36) rfl rfl (by omega) (fun (h7 : b < 2) => ?_) (fun (h7 : ¬ (b < 2)) => ?_)
            · show wW (zK sc) zM15 36 [(0, .inr (.inr (.inl (some (0, 0))))), (1, .inl x), (2, .inl y), (3, .inl z), (4, .inl b)] [] _ _ _
              refine ww_go 6 (pc' := 45) (L' := [(0, .inr (.inr (.inl (some (0, 0))))), (1, .inl x), (2, .inl y), (3, .inl z), (4, .inl b)]) (st' := [.inl b, .inl z, .inl y, .inl x, .inr (.inr (.inl (some (19, 0))))]) (m' := m1) (o := some ((0 < 1))) rfl (show (0 < 1) from by omega) ?_
              refine ww_call (vs := [.inr (.inr (.inl (some (19, 0)))), .inl x, .inl y, .inl z, .inl b]) (r := []) (p := 0 < 1) rfl rfl rfl rfl (show 0 < 1 from by omega) (yt100 (c := c) (by omega) x y z b hGm1 (by omega)) ?_
              rintro _ _ _ ⟨r8, rfl, rfl, rfl, hr9⟩
              show wW (zK sc) zM15 48 [(0, .inr (.inr (.inl (some (0, 0))))), (1, .inl x), (2, .inl y), (3, .inl z), (4, .inl b)] [.inl r8] _ _ _
              exact ww_rI rfl rfl ⟨zB_mono hGm1 (by omega), hFm1, Or.inl ⟨_, rfl, rfl, ⟨by omega, (by have z9 := hr9.2.2; rw [← zfr_eq hEm1] at z9; exact z9)⟩⟩⟩
            · show wW (zK sc) zM15 26 [(0, .inr (.inr (.inl (some (0, 0))))), (1, .inl x), (2, .inl y), (3, .inl z), (4, .inl b)] [] _ _ _
              exact ww_thr rfl rfl (by decide) rfl (Nat.le_of_ble_eq_true rfl) rfl (by omega) ⟨zB_mono hGm1 (by omega), hFm1, Or.inr ⟨_, rfl, rfl, by omega⟩⟩
    · cases hv
  · obtain ⟨hGm1, hEm1, hq⟩ := hq
    rcases hq with ⟨hv, _⟩ | ⟨q9, hv, rfl, hr2⟩
    · cases hv
    · obtain rfl := Sum.inr.inj hv
      have hFm1 : zfr (fun k i j => False) m0 m1 := zfr_tr hF hEm1 (fun k i j z => False.elim z)
      exact ⟨zB_mono hGm1 (by omega), hFm1, Or.inr ⟨_, rfl, rfl, by omega⟩⟩
set_option maxRecDepth 8000 in
/-- Dl.release -/
theorem yt16 {sc : xSc} {n : Nat × Nat} {m0 : wm} {c : Int} (hn : n.1 < 2300) (hc : 0 ≤ c ∧ c ≤ 980000) (x : Int) (hG : zB c m0) (h0 : -2147483648 ≤ x ∧ x ≤ 2147483647) : wX (zK sc) 16 [.inr (.inr (.inl (some (0, 0)))), .inl x] n m0 (fun o n1 m1 => zB (c + 1) m1 ∧ zfr (fun k i j => (26 ≤ k ∧ k ≤ 26 ∧ i < 8 ∧ j = 8) ∨ (k = 1 ∧ 157 ≤ i ∧ i < 171 ∧ j = 1) ∨ (k = 2 ∧ 157 ≤ i ∧ i < 171) ∨ (26 ≤ k ∧ k ≤ 32 ∧ 8 ≤ i ∧ i < 10) ∨ (k = 1 ∧ i = 2 ∧ j = 1) ∨ (k = 2 ∧ i = 2) ∨ (k = 16) ∨ (k = 17) ∨ (k = 18)) m0 m1 ∧ ((∃ r : Int, o = .inl (some (.inl r)) ∧ n = n1 ∧ (0 ≤ r ∧ r ≤ 65535)) ∨ (∃ q : Nat, o = .inr q ∧ (n.1 + 1, n.2 + 6) = n1 ∧ (q = 0)))) := by
  refine wX_of (N := zM16) rfl (Nat.le_of_ble_eq_true rfl) ?_
  show wW (zK sc) zM16 0 [(0, .inr (.inr (.inl (some (0, 0))))), (1, .inl x)] [] n m0 _
  have hF : zfr (fun k i j => (26 ≤ k ∧ k ≤ 26 ∧ i < 8 ∧ j = 8) ∨ (k = 1 ∧ 157 ≤ i ∧ i < 171 ∧ j = 1) ∨ (k = 2 ∧ 157 ≤ i ∧ i < 171) ∨ (26 ≤ k ∧ k ≤ 32 ∧ 8 ≤ i ∧ i < 10) ∨ (k = 1 ∧ i = 2 ∧ j = 1) ∨ (k = 2 ∧ i = 2) ∨ (k = 16) ∨ (k = 17) ∨ (k = 18)) m0 m0 := zfr_rf
  refine ww_go 1 (pc' := 1) (L' := [(0, .inr (.inr (.inl (some (0, 0))))), (1, .inl x)]) (st' := [.inl x]) (m' := m0) (o := none) rfl trivial ?_
  refine ww_callT (vs := [.inl x]) (r := []) (p := True) rfl rfl rfl rfl trivial (fun h => h.elim (fun z => Bool.noConfusion (show false = true from z)) (fun z => Bool.noConfusion (show true = false from z))) rfl (zs2 (c := c) hn (by omega) x hG (by omega)) (fun vq nq m1 hq => ?_) (fun kq nq m1 hq => ?_)
  · obtain ⟨hGm1, hEm1, hq⟩ := hq
    rcases hq with ⟨hv, rfl, hr2⟩ | ⟨q9, hv, _⟩
    · obtain rfl := Sum.inl.inj hv
      have hFm1 : zfr (fun k i j => (26 ≤ k ∧ k ≤ 26 ∧ i < 8 ∧ j = 8) ∨ (k = 1 ∧ 157 ≤ i ∧ i < 171 ∧ j = 1) ∨ (k = 2 ∧ 157 ≤ i ∧ i < 171) ∨ (26 ≤ k ∧ k ≤ 32 ∧ 8 ≤ i ∧ i < 10) ∨ (k = 1 ∧ i = 2 ∧ j = 1) ∨ (k = 2 ∧ i = 2) ∨ (k = 16) ∨ (k = 17) ∨ (k = 18)) m0 m1 := zfr_tr hF hEm1 (fun k i j z => False.elim z)
      show wW (zK sc) zM16 4 [(0, .inr (.inr (.inl (some (0, 0))))), (1, .inl x)] [] _ _ _
      refine ww_go 3 (pc' := 9) (L' := [(0, .inr (.inr (.inl (some (0, 0))))), (1, .inl x)]) (st' := [.inl x, .inr (.inr (.inl (some (19, 0))))]) (m' := m1) (o := some ((0 < 1))) rfl (show (0 < 1) from by omega) ?_
      refine ww_call (vs := [.inr (.inr (.inl (some (19, 0)))), .inl x]) (r := []) (p := 0 < 1) rfl rfl rfl rfl (show 0 < 1 from by omega) (yt91 (c := c) (by omega) x hGm1 (by omega)) ?_
      rintro _ _ m6 ⟨r4, rfl, rfl, hGm6, hEm6, hr5⟩
      have hFm6 : zfr (fun k i j => (26 ≤ k ∧ k ≤ 26 ∧ i < 8 ∧ j = 8) ∨ (k = 1 ∧ 157 ≤ i ∧ i < 171 ∧ j = 1) ∨ (k = 2 ∧ 157 ≤ i ∧ i < 171) ∨ (26 ≤ k ∧ k ≤ 32 ∧ 8 ≤ i ∧ i < 10) ∨ (k = 1 ∧ i = 2 ∧ j = 1) ∨ (k = 2 ∧ i = 2) ∨ (k = 16) ∨ (k = 17) ∨ (k = 18)) m0 m6 := zfr_tr hFm1 hEm6 (fun k i j z => Or.elim z (fun z => Or.inl z) (fun z => Or.elim z (fun z => Or.inr (Or.inl z)) (fun z => Or.elim z (fun z => Or.inr (Or.inr (Or.inl z))) (fun z => Or.elim z (fun z => Or.inr (Or.inr (Or.inr (Or.inl z)))) (fun z => Or.elim z (fun z => Or.inr (Or.inr (Or.inr (Or.inr (Or.inl z))))) (fun z => Or.elim z (fun z => Or.inr (Or.inr (Or.inr (Or.inr (Or.inr (Or.inl z)))))) (fun z => Or.elim z (fun z => Or.inr (Or.inr (Or.inr (Or.inr (Or.inr (Or.inr (Or.inl z))))))) (fun z => Or.elim z (fun z => Or.inr (Or.inr (Or.inr (Or.inr (Or.inr (Or.inr (Or.inr (Or.inl z)))))))) (fun z => Or.inr (Or.inr (Or.inr (Or.inr (Or.inr (Or.inr (Or.inr (Or.inr (z)))))))))))))))))
      show wW (zK sc) zM16 12 [(0, .inr (.inr (.inl (some (0, 0))))), (1, .inl x)] [.inl r4] _ _ _
      exact ww_rI rfl rfl ⟨zB_mono hGm6 (by omega), hFm6, Or.inl ⟨_, rfl, rfl, by omega⟩⟩
    · cases hv
  · obtain ⟨hGm1, hEm1, hq⟩ := hq
    rcases hq with ⟨hv, _⟩ | ⟨q9, hv, rfl, hr2⟩
    · cases hv
    · obtain rfl := Sum.inr.inj hv
      have hFm1 : zfr (fun k i j => (26 ≤ k ∧ k ≤ 26 ∧ i < 8 ∧ j = 8) ∨ (k = 1 ∧ 157 ≤ i ∧ i < 171 ∧ j = 1) ∨ (k = 2 ∧ 157 ≤ i ∧ i < 171) ∨ (26 ≤ k ∧ k ≤ 32 ∧ 8 ≤ i ∧ i < 10) ∨ (k = 1 ∧ i = 2 ∧ j = 1) ∨ (k = 2 ∧ i = 2) ∨ (k = 16) ∨ (k = 17) ∨ (k = 18)) m0 m1 := zfr_tr hF hEm1 (fun k i j z => False.elim z)
      exact ⟨zB_mono hGm1 (by omega), hFm1, Or.inr ⟨_, rfl, rfl, by omega⟩⟩
set_option maxRecDepth 8000 in
/-- Dl.count -/
theorem yt6 {sc : xSc} {n : Nat × Nat} {m0 : wm} {c : Int} (hn : n.1 < 2300) (hc : 0 ≤ c ∧ c ≤ 1000000) (x : Int) (hG : zB c m0) (h0 : -2147483648 ≤ x ∧ x ≤ 2147483647) : wX (zK sc) 6 [.inr (.inr (.inl (some (0, 0)))), .inl x] n m0 (fun o n1 m1 => zB c m1 ∧ zfr (fun k i j => False) m0 m1 ∧ ((∃ r : Int, o = .inl (some (.inl r)) ∧ n = n1 ∧ ((0 ≤ x ∧ x ≤ 2) ∧ (-2147483648 ≤ r ∧ r ≤ 2147483647) ∧ (x = 0 → r = m0.1 19 0 6) ∧ (x = 1 → r = m0.1 22 0 3) ∧ (x = 2 → r = m0.1 0 0 7))) ∨ (∃ q : Nat, o = .inr q ∧ (n.1 + 1, n.2 + 6) = n1 ∧ (q = 0 ∧ ¬ (0 ≤ x ∧ x ≤ 2))))) := by
  refine wX_of (N := zM6) rfl (Nat.le_of_ble_eq_true rfl) ?_
  show wW (zK sc) zM6 0 [(0, .inr (.inr (.inl (some (0, 0))))), (1, .inl x)] [] n m0 _
  have hF : zfr (fun k i j => False) m0 m0 := zfr_rf
  refine ww_go 1 (pc' := 1) (L' := [(0, .inr (.inr (.inl (some (0, 0))))), (1, .inl x)]) (st' := [.inl x]) (m' := m0) (o := none) rfl trivial ?_
  refine ww_tab rfl (by omega) (td := 49) rfl (fun (h1 : x < 0 ∨ 2 < x) => ?_) (fun h1a h1b => ?_)
  · show wW (zK sc) zM6 49 [(0, .inr (.inr (.inl (some (0, 0))))), (1, .inl x)] [] _ _ _
    exact ww_thr rfl rfl (by decide) rfl (Nat.le_of_ble_eq_true rfl) rfl (by omega) ⟨zB_mono hG (by omega), hF, Or.inr ⟨_, rfl, rfl, by omega⟩⟩
  · rcases (show x = 0 ∨ x = 1 ∨ x = 2 from by omega) with h1 | h1 | h1
    · refine ⟨27, 28, by rw [h1]; rfl, rfl, ?_⟩
      show wW (zK sc) zM6 28 [(0, .inr (.inr (.inl (some (0, 0))))), (1, .inl x)] [] _ _ _
      refine ww_go 2 (pc' := 32) (L' := [(0, .inr (.inr (.inl (some (0, 0))))), (1, .inl x)]) (st' := [.inr (.inr (.inl (some (19, 0))))]) (m' := m0) (o := some ((0 < 1))) rfl (show (0 < 1) from by omega) ?_
      refine ww_call (vs := [.inr (.inr (.inl (some (19, 0))))]) (r := []) (p := 0 < 1) rfl rfl rfl rfl (show 0 < 1 from by omega) (yt78 (c := c) (by omega) hG) ?_
      rintro _ _ _ ⟨r2, rfl, rfl, rfl, hr3⟩
      show wW (zK sc) zM6 35 [(0, .inr (.inr (.inl (some (0, 0))))), (1, .inl x)] [.inl r2] _ _ _
      exact ww_rI rfl rfl ⟨zB_mono hG (by omega), hF, Or.inl ⟨_, rfl, rfl, by omega⟩⟩
    · refine ⟨35, 36, by rw [h1]; rfl, rfl, ?_⟩
      show wW (zK sc) zM6 36 [(0, .inr (.inr (.inl (some (0, 0))))), (1, .inl x)] [] _ _ _
      refine ww_go 2 (pc' := 40) (L' := [(0, .inr (.inr (.inl (some (0, 0))))), (1, .inl x)]) (st' := [.inr (.inr (.inl (some (19, 0))))]) (m' := m0) (o := some ((0 < 1))) rfl (show (0 < 1) from by omega) ?_
      refine ww_call (vs := [.inr (.inr (.inl (some (19, 0))))]) (r := []) (p := 0 < 1) rfl rfl rfl rfl (show 0 < 1 from by omega) (yt75 (c := c) (by omega) hG) ?_
      rintro _ _ _ ⟨r4, rfl, rfl, rfl, hr5⟩
      show wW (zK sc) zM6 43 [(0, .inr (.inr (.inl (some (0, 0))))), (1, .inl x)] [.inl r4] _ _ _
      exact ww_rI rfl rfl ⟨zB_mono hG (by omega), hF, Or.inl ⟨_, rfl, rfl, by omega⟩⟩
    · refine ⟨43, 44, by rw [h1]; rfl, rfl, ?_⟩
      show wW (zK sc) zM6 44 [(0, .inr (.inr (.inl (some (0, 0))))), (1, .inl x)] [] _ _ _
      have b6 : 0 ≤ m0.1 0 0 7 ∧ m0.1 0 0 7 ≤ c := hG.1 0 _ rfl _ _
      refine ww_go 2 (pc' := 48) (L' := [(0, .inr (.inr (.inl (some (0, 0))))), (1, .inl x)]) (st' := [.inl (m0.1 0 0 7)]) (m' := m0) (o := some ((0 < 1))) rfl (show (0 < 1) from by omega) ?_
      exact ww_rI rfl rfl ⟨zB_mono hG (by omega), hF, Or.inl ⟨_, rfl, rfl, by omega⟩⟩
