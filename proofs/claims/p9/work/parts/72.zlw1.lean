/-! The law's helpers over named memory. -/
def znn (n n1 : Nat × Nat) : Prop := n.1 ≤ n1.1 ∧ n1.1 ≤ n.1 + 1 ∧ n1.2 ≤ n.2 + 6
theorem znn_rf {n : Nat × Nat} : znn n n := ⟨Nat.le_refl _, Nat.le_succ _, Nat.le_add_right _ _⟩
theorem znn_th {n : Nat × Nat} : znn n (n.1 + 1, n.2 + 6) := ⟨Nat.le_succ _, Nat.le_refl _, Nat.le_refl _⟩
theorem wuL_self {m : wm} {k i j : Nat} {x : Int64} : (wuL m k i j x).2.1 k i j = x := by
  show (if k = k ∧ i = i ∧ j = j then x else _) = x
  rw [if_pos ⟨rfl, rfl, rfl⟩]
set_option maxRecDepth 8000 in
/-- the law's feed -/
theorem zs163 {sc : xSc} {n : Nat × Nat} {m0 : wm} {c : Int} (hn : n.1 < 2300) (hc : 0 ≤ c ∧ c ≤ 960000) (b : Int) (v : Int64) (x : Int) (hG : zB c m0) (h0 : 0 ≤ b ∧ b ≤ 1 ∧ -2147483648 ≤ x ∧ x ≤ 2147483647) : wX (zK sc) 163 [.inr (.inr (.inl (some (0, 0)))), .inl b, .inr (.inl v), .inl x, .inr (.inr (.inl (some (73, 0))))] n m0 (wr (fun vv n1 m1 => ∃ r : Int, vv = some (.inl r) ∧ znn n n1 ∧ zB c m1 ∧ zfr (fun k i j => (k = 1 ∧ i = (b : Int).toNat ∧ j = 1) ∨ (k = 2 ∧ i = (b : Int).toNat) ∨ (k = 73)) m0 m1 ∧ ((r = 0 ∧ ∃ y : Int, m1.2.1 73 0 0 = wi2l y ∧ (1 ≤ x ∧ x ≤ 8 ∧ (b = 1 ∧ m0.1 1 1 1 + x ≤ 96 ∧ y = m0.1 1 1 1 + x ∧ m1.1 1 1 1 = y ∧ m1.1 1 0 1 = m0.1 1 0 1 ∨ b = 0 ∧ m0.1 1 0 1 + x ≤ 6 ∧ y = m0.1 1 0 1 + x ∧ m1.1 1 0 1 = y ∧ m1.1 1 1 1 = m0.1 1 1 1)) ∧ ((b = 1 → zApd (m1.1 2 1) (m0.1 2 1) (m0.1 1 1 1) x v) ∧ (b = 0 → zApd (m1.1 2 0) (m0.1 2 0) (m0.1 1 0 1) x v))) ∨ (r = 1 ∧ ((x < 1 ∨ 8 < x)) ∧ (m0 = m1)) ∨ (r = 2 ∧ (1 ≤ x ∧ x ≤ 8 ∧ (b = 1 ∧ 96 < m0.1 1 1 1 + x ∨ b = 0 ∧ 6 < m0.1 1 0 1 + x)) ∧ (m0 = m1))))) := by
  refine wX_of (N := zM163) rfl (Nat.le_of_ble_eq_true rfl) ?_
  show wW (zK sc) zM163 0 [(0, .inr (.inr (.inl (some (0, 0))))), (1, .inl b), (2, .inr (.inl v)), (4, .inl x), (5, .inr (.inr (.inl (some (73, 0)))))] [] n m0 _
  have hF : zfr (fun k i j => (k = 1 ∧ i = (b : Int).toNat ∧ j = 1) ∨ (k = 2 ∧ i = (b : Int).toNat) ∨ (k = 73)) m0 m0 := zfr_rf
  refine ww_go 6 (pc' := 8) (L' := [(0, .inr (.inr (.inl (some (0, 0))))), (1, .inl b), (2, .inr (.inl v)), (4, .inl x), (5, .inr (.inr (.inl (some (73, 0)))))]) (st' := [.inl x, .inr (.inl v), .inl b, .inr (.inr (.inl (some (0, 0)))), .inl 0, .inr (.inr (.inl (some (73, 0))))]) (m' := m0) (o := none) rfl trivial ?_
  refine ww_callC (vs := [.inr (.inr (.inl (some (0, 0)))), .inl b, .inr (.inl v), .inl x]) (r := [.inl 0, .inr (.inr (.inl (some (73, 0))))]) (p := 0 < 1) rfl rfl rfl rfl (show 0 < 1 from by omega) (fun h => h.elim (fun z => Bool.noConfusion (show false = true from z)) (fun z => Bool.noConfusion (show true = false from z))) rfl (zs7 (c := c) hn (by omega) b v x hG (by omega)) (fun vq nq m1 hq => ?_) (fun kq nq m1 hq => ?_)
  · obtain ⟨hGm1, hEm1, hq⟩ := hq
    rcases hq with ⟨r3, hv, rfl, hr2⟩ | ⟨q9, hv, _⟩
    · obtain rfl := Sum.inl.inj hv
      have hFm1 : zfr (fun k i j => (k = 1 ∧ i = (b : Int).toNat ∧ j = 1) ∨ (k = 2 ∧ i = (b : Int).toNat) ∨ (k = 73)) m0 m1 := zfr_tr hF hEm1 (fun k i j z => Or.elim z (fun z => Or.inl z) (fun z => Or.inr (Or.inl z)))
      show wW (zK sc) zM163 11 [(0, .inr (.inr (.inl (some (0, 0))))), (1, .inl b), (2, .inr (.inl v)), (4, .inl x), (5, .inr (.inr (.inl (some (73, 0)))))] [.inl r3, .inl 0, .inr (.inr (.inl (some (73, 0))))] _ _ _
      refine ww_go 2 (pc' := 13) (L' := [(0, .inr (.inr (.inl (some (0, 0))))), (1, .inl b), (2, .inr (.inl v)), (4, .inl x), (5, .inr (.inr (.inl (some (73, 0)))))]) (st' := []) (m' := wuL m1 73 0 0 (wi2l r3)) (o := some ((0 < 1 ∧ 0 ≤ (0 : Int) ∧ (0 : Int) < ((1 : Nat) : Int)))) rfl (show (0 < 1 ∧ 0 ≤ (0 : Int) ∧ (0 : Int) < ((1 : Nat) : Int)) from by omega) ?_
      obtain ⟨m4, hm4⟩ : ∃ zq9 : wm, zq9 = wuL m1 73 0 0 (wi2l r3) := ⟨_, rfl⟩
      rw [← hm4]
      have hGm4 : zB c m4 := by rw [hm4]; exact zB_wL hGm1
      have hFm4 : zfr (fun k i j => (k = 1 ∧ i = (b : Int).toNat ∧ j = 1) ∨ (k = 2 ∧ i = (b : Int).toNat) ∨ (k = 73)) m0 m4 := by rw [hm4]; exact zfr_wL hFm1 (show (73 = 1 ∧ 0 = (b : Int).toNat ∧ 0 = 1) ∨ (73 = 2 ∧ 0 = (b : Int).toNat) ∨ (73 = 73) from Or.inr (Or.inr (rfl)))
      have ho5 : m4.2.1 73 0 0 = wi2l r3 := by rw [hm4]; exact wuL_self
      have w6 : m4.1 1 0 1 = m1.1 1 0 1 := by rw [hm4]; rfl
      have w7 : m4.1 1 1 1 = m1.1 1 1 1 := by rw [hm4]; rfl
      refine ww_go 2 (pc' := 25) (L' := [(0, .inr (.inr (.inl (some (0, 0))))), (1, .inl b), (2, .inr (.inl v)), (4, .inl x), (5, .inr (.inr (.inl (some (73, 0)))))]) (st' := [.inl 0]) (m' := m4) (o := none) rfl trivial ?_
      exact ww_rI rfl rfl ⟨_, rfl, znn_rf, zB_mono hGm4 (by omega), hFm4, Or.inl (⟨rfl, _, ho5, by omega, (by rw [hm4]; exact hr2.2)⟩)⟩
    · cases hv
  · obtain ⟨hGm1, hEm1, hq⟩ := hq
    rcases hq with ⟨_, hv, _⟩ | ⟨q9, hv, rfl, hr2⟩
    · cases hv
    · obtain rfl := Sum.inr.inj hv
      have hFm1 : zfr (fun k i j => (k = 1 ∧ i = (b : Int).toNat ∧ j = 1) ∨ (k = 2 ∧ i = (b : Int).toNat) ∨ (k = 73)) m0 m1 := zfr_tr hF hEm1 (fun k i j z => Or.elim z (fun z => Or.inl z) (fun z => Or.inr (Or.inl z)))
      rcases (show kq = 0 ∨ kq = 1 from by omega) with rfl | rfl
      · refine ⟨16, 18, [(0, .inr (.inr (.inl (some (0, 0))))), (1, .inl b), (2, .inr (.inl v)), (4, .inl x), (5, .inr (.inr (.inl (some (73, 0)))))], rfl, rfl, ?_⟩
        refine ww_go 1 (pc' := 19) (L' := [(0, .inr (.inr (.inl (some (0, 0))))), (1, .inl b), (2, .inr (.inl v)), (4, .inl x), (5, .inr (.inr (.inl (some (73, 0)))))]) (st' := [.inl 1]) (m' := m1) (o := none) rfl trivial ?_
        exact ww_rI rfl rfl ⟨_, rfl, znn_th, zB_mono hGm1 (by omega), hFm1, Or.inr (Or.inl (⟨rfl, by omega, hr2.2⟩))⟩
      · refine ⟨20, 22, [(0, .inr (.inr (.inl (some (0, 0))))), (1, .inl b), (2, .inr (.inl v)), (4, .inl x), (5, .inr (.inr (.inl (some (73, 0)))))], rfl, rfl, ?_⟩
        refine ww_go 1 (pc' := 23) (L' := [(0, .inr (.inr (.inl (some (0, 0))))), (1, .inl b), (2, .inr (.inl v)), (4, .inl x), (5, .inr (.inr (.inl (some (73, 0)))))]) (st' := [.inl 2]) (m' := m1) (o := none) rfl trivial ?_
        exact ww_rI rfl rfl ⟨_, rfl, znn_th, zB_mono hGm1 (by omega), hFm1, Or.inr (Or.inr (⟨rfl, by omega, hr2.2⟩))⟩
set_option maxRecDepth 8000 in
/-- the law's write -/
theorem zs177 {sc : xSc} {n : Nat × Nat} {m0 : wm} {c : Int} (hn : n.1 < 2300) (hc : 0 ≤ c ∧ c ≤ 960000) (x : Int) (hG : zB c m0) (h0 : -2147483648 ≤ x ∧ x ≤ 2147483647) (hD : zDi m0) : wX (zK sc) 177 [.inr (.inr (.inl (some (0, 0)))), .inl x, .inr (.inr (.inl (some (73, 0))))] n m0 (wr (fun vv n1 m1 => ∃ r : Int, vv = some (.inl r) ∧ znn n n1 ∧ zB c m1 ∧ zfr (fun k i j => (k = 1 ∧ (i < 2 ∨ (35 + 6 * x.toNat ≤ i ∧ i < 41 + 6 * x.toNat ∨ 47 + 6 * x.toNat ≤ i ∧ i < 53 + 6 * x.toNat) ∧ 0 ≤ x ∧ x ≤ 1) ∧ j = 1) ∨ (k = 2 ∧ (35 + 6 * x.toNat ≤ i ∧ i < 41 + 6 * x.toNat ∨ 47 + 6 * x.toNat ≤ i ∧ i < 53 + 6 * x.toNat) ∧ 0 ≤ x ∧ x ≤ 1) ∨ (k = 6 ∧ i = x.toNat ∧ j = 3 ∧ 0 ≤ x ∧ x ≤ 1) ∨ (k = 7 ∧ i = x.toNat ∧ 0 ≤ x ∧ x ≤ 1) ∨ (k = 8 ∧ i = x.toNat ∧ 0 ≤ x ∧ x ≤ 1) ∨ (k = 73)) m0 m1 ∧ ((r = 0 ∧ ∃ y : Int, m1.2.1 73 0 0 = wi2l y ∧ (m1.1 1 0 1 = 0 ∧ m1.1 1 1 1 = 0 ∧ 0 ≤ x ∧ x ≤ 1 ∧ 1 ≤ y) ∧ (zNm (zBR m0 0) ∧ zPut (zCF m0 x.toNat) (m0.1 6 x.toNat 3) (zBR m0 0) (zBR m0 1) (zCF m1 x.toNat) (m1.1 6 x.toNat 3) y ∧ zDi m1)) ∨ (r = 1 ∧ (m1.1 1 0 1 = 0 ∧ m1.1 1 1 1 = 0) ∧ ((x < 0 ∨ 1 < x ∨ ¬ zNm (zBR m0 0)) ∧ zfr (fun k i j => k = 1 ∧ i < 2 ∧ j = 1) m0 m1)) ∨ (r = 2 ∧ (m1.1 1 0 1 = 0 ∧ m1.1 1 1 1 = 0 ∧ 0 ≤ x ∧ x ≤ 1) ∧ (zNm (zBR m0 0) ∧ zPut (zCF m0 x.toNat) (m0.1 6 x.toNat 3) (zBR m0 0) (zBR m0 1) (zCF m1 x.toNat) (m1.1 6 x.toNat 3) 0 ∧ zDi m1))))) := by
  refine wX_of (N := zM177) rfl (Nat.le_of_ble_eq_true rfl) ?_
  show wW (zK sc) zM177 0 [(0, .inr (.inr (.inl (some (0, 0))))), (1, .inl x), (2, .inr (.inr (.inl (some (73, 0)))))] [] n m0 _
  have hF : zfr (fun k i j => (k = 1 ∧ (i < 2 ∨ (35 + 6 * x.toNat ≤ i ∧ i < 41 + 6 * x.toNat ∨ 47 + 6 * x.toNat ≤ i ∧ i < 53 + 6 * x.toNat) ∧ 0 ≤ x ∧ x ≤ 1) ∧ j = 1) ∨ (k = 2 ∧ (35 + 6 * x.toNat ≤ i ∧ i < 41 + 6 * x.toNat ∨ 47 + 6 * x.toNat ≤ i ∧ i < 53 + 6 * x.toNat) ∧ 0 ≤ x ∧ x ≤ 1) ∨ (k = 6 ∧ i = x.toNat ∧ j = 3 ∧ 0 ≤ x ∧ x ≤ 1) ∨ (k = 7 ∧ i = x.toNat ∧ 0 ≤ x ∧ x ≤ 1) ∨ (k = 8 ∧ i = x.toNat ∧ 0 ≤ x ∧ x ≤ 1) ∨ (k = 73)) m0 m0 := zfr_rf
  refine ww_go 4 (pc' := 4) (L' := [(0, .inr (.inr (.inl (some (0, 0))))), (1, .inl x), (2, .inr (.inr (.inl (some (73, 0)))))]) (st' := [.inl x, .inr (.inr (.inl (some (0, 0)))), .inl 0, .inr (.inr (.inl (some (73, 0))))]) (m' := m0) (o := none) rfl trivial ?_
  refine ww_callC (vs := [.inr (.inr (.inl (some (0, 0)))), .inl x]) (r := [.inl 0, .inr (.inr (.inl (some (73, 0))))]) (p := 0 < 1) rfl rfl rfl rfl (show 0 < 1 from by omega) (fun h => h.elim (fun z => Bool.noConfusion (show false = true from z)) (fun z => Bool.noConfusion (show true = false from z))) rfl (zs24 (c := c) hn (by omega) x hG (by omega) hD) (fun vq nq m1 hq => ?_) (fun kq nq m1 hq => ?_)
  · obtain ⟨hGm1, hEm1, hq⟩ := hq
    rcases hq with ⟨r3, hv, rfl, hr2⟩ | ⟨q9, hv, _⟩
    · obtain rfl := Sum.inl.inj hv
      have hFm1 : zfr (fun k i j => (k = 1 ∧ (i < 2 ∨ (35 + 6 * x.toNat ≤ i ∧ i < 41 + 6 * x.toNat ∨ 47 + 6 * x.toNat ≤ i ∧ i < 53 + 6 * x.toNat) ∧ 0 ≤ x ∧ x ≤ 1) ∧ j = 1) ∨ (k = 2 ∧ (35 + 6 * x.toNat ≤ i ∧ i < 41 + 6 * x.toNat ∨ 47 + 6 * x.toNat ≤ i ∧ i < 53 + 6 * x.toNat) ∧ 0 ≤ x ∧ x ≤ 1) ∨ (k = 6 ∧ i = x.toNat ∧ j = 3 ∧ 0 ≤ x ∧ x ≤ 1) ∨ (k = 7 ∧ i = x.toNat ∧ 0 ≤ x ∧ x ≤ 1) ∨ (k = 8 ∧ i = x.toNat ∧ 0 ≤ x ∧ x ≤ 1) ∨ (k = 73)) m0 m1 := zfr_tr hF hEm1 (fun k i j z => Or.elim z (fun z => Or.inl z) (fun z => Or.elim z (fun z => Or.inr (Or.inl z)) (fun z => Or.elim z (fun z => Or.inr (Or.inr (Or.inl z))) (fun z => Or.elim z (fun z => Or.inr (Or.inr (Or.inr (Or.inl z)))) (fun z => Or.inr (Or.inr (Or.inr (Or.inr (Or.inl z)))))))))
      show wW (zK sc) zM177 7 [(0, .inr (.inr (.inl (some (0, 0))))), (1, .inl x), (2, .inr (.inr (.inl (some (73, 0)))))] [.inl r3, .inl 0, .inr (.inr (.inl (some (73, 0))))] _ _ _
      refine ww_go 2 (pc' := 9) (L' := [(0, .inr (.inr (.inl (some (0, 0))))), (1, .inl x), (2, .inr (.inr (.inl (some (73, 0)))))]) (st' := []) (m' := wuL m1 73 0 0 (wi2l r3)) (o := some ((0 < 1 ∧ 0 ≤ (0 : Int) ∧ (0 : Int) < ((1 : Nat) : Int)))) rfl (show (0 < 1 ∧ 0 ≤ (0 : Int) ∧ (0 : Int) < ((1 : Nat) : Int)) from by omega) ?_
      obtain ⟨m4, hm4⟩ : ∃ zq9 : wm, zq9 = wuL m1 73 0 0 (wi2l r3) := ⟨_, rfl⟩
      rw [← hm4]
      have hGm4 : zB c m4 := by rw [hm4]; exact zB_wL hGm1
      have hFm4 : zfr (fun k i j => (k = 1 ∧ (i < 2 ∨ (35 + 6 * x.toNat ≤ i ∧ i < 41 + 6 * x.toNat ∨ 47 + 6 * x.toNat ≤ i ∧ i < 53 + 6 * x.toNat) ∧ 0 ≤ x ∧ x ≤ 1) ∧ j = 1) ∨ (k = 2 ∧ (35 + 6 * x.toNat ≤ i ∧ i < 41 + 6 * x.toNat ∨ 47 + 6 * x.toNat ≤ i ∧ i < 53 + 6 * x.toNat) ∧ 0 ≤ x ∧ x ≤ 1) ∨ (k = 6 ∧ i = x.toNat ∧ j = 3 ∧ 0 ≤ x ∧ x ≤ 1) ∨ (k = 7 ∧ i = x.toNat ∧ 0 ≤ x ∧ x ≤ 1) ∨ (k = 8 ∧ i = x.toNat ∧ 0 ≤ x ∧ x ≤ 1) ∨ (k = 73)) m0 m4 := by rw [hm4]; exact zfr_wL hFm1 (show (73 = 1 ∧ (0 < 2 ∨ (35 + 6 * x.toNat ≤ 0 ∧ 0 < 41 + 6 * x.toNat ∨ 47 + 6 * x.toNat ≤ 0 ∧ 0 < 53 + 6 * x.toNat) ∧ 0 ≤ x ∧ x ≤ 1) ∧ 0 = 1) ∨ (73 = 2 ∧ (35 + 6 * x.toNat ≤ 0 ∧ 0 < 41 + 6 * x.toNat ∨ 47 + 6 * x.toNat ≤ 0 ∧ 0 < 53 + 6 * x.toNat) ∧ 0 ≤ x ∧ x ≤ 1) ∨ (73 = 6 ∧ 0 = x.toNat ∧ 0 = 3 ∧ 0 ≤ x ∧ x ≤ 1) ∨ (73 = 7 ∧ 0 = x.toNat ∧ 0 ≤ x ∧ x ≤ 1) ∨ (73 = 8 ∧ 0 = x.toNat ∧ 0 ≤ x ∧ x ≤ 1) ∨ (73 = 73) from Or.inr (Or.inr (Or.inr (Or.inr (Or.inr (rfl))))))
      have ho5 : m4.2.1 73 0 0 = wi2l r3 := by rw [hm4]; exact wuL_self
      have w6 : m4.1 1 0 1 = m1.1 1 0 1 := by rw [hm4]; rfl
      have w7 : m4.1 1 1 1 = m1.1 1 1 1 := by rw [hm4]; rfl
      refine ww_go 2 (pc' := 19) (L' := [(0, .inr (.inr (.inl (some (0, 0))))), (1, .inl x), (2, .inr (.inr (.inl (some (73, 0)))))]) (st' := [.inl 0]) (m' := m4) (o := none) rfl trivial ?_
      exact ww_rI rfl rfl ⟨_, rfl, znn_rf, zB_mono hGm4 (by omega), hFm4, Or.inl (⟨rfl, _, ho5, by omega, (by rw [hm4]; exact ⟨hr2.2.2.2.2.1, hr2.2.2.2.2.2.1, hr2.2.2.2.2.2.2.2⟩)⟩)⟩
    · cases hv
  · obtain ⟨hGm1, hEm1, hq⟩ := hq
    rcases hq with ⟨_, hv, _⟩ | ⟨q9, hv, rfl, hr2⟩
    · cases hv
    · obtain rfl := Sum.inr.inj hv
      have hFm1 : zfr (fun k i j => (k = 1 ∧ (i < 2 ∨ (35 + 6 * x.toNat ≤ i ∧ i < 41 + 6 * x.toNat ∨ 47 + 6 * x.toNat ≤ i ∧ i < 53 + 6 * x.toNat) ∧ 0 ≤ x ∧ x ≤ 1) ∧ j = 1) ∨ (k = 2 ∧ (35 + 6 * x.toNat ≤ i ∧ i < 41 + 6 * x.toNat ∨ 47 + 6 * x.toNat ≤ i ∧ i < 53 + 6 * x.toNat) ∧ 0 ≤ x ∧ x ≤ 1) ∨ (k = 6 ∧ i = x.toNat ∧ j = 3 ∧ 0 ≤ x ∧ x ≤ 1) ∨ (k = 7 ∧ i = x.toNat ∧ 0 ≤ x ∧ x ≤ 1) ∨ (k = 8 ∧ i = x.toNat ∧ 0 ≤ x ∧ x ≤ 1) ∨ (k = 73)) m0 m1 := zfr_tr hF hEm1 (fun k i j z => Or.elim z (fun z => Or.inl z) (fun z => Or.elim z (fun z => Or.inr (Or.inl z)) (fun z => Or.elim z (fun z => Or.inr (Or.inr (Or.inl z))) (fun z => Or.elim z (fun z => Or.inr (Or.inr (Or.inr (Or.inl z)))) (fun z => Or.inr (Or.inr (Or.inr (Or.inr (Or.inl z)))))))))
      rcases (show kq = 0 ∨ kq = 1 from by omega) with rfl | rfl
      · refine ⟨12, 13, [(0, .inr (.inr (.inl (some (0, 0))))), (1, .inl x), (2, .inr (.inr (.inl (some (73, 0)))))], rfl, rfl, ?_⟩
        refine ww_go 1 (pc' := 14) (L' := [(0, .inr (.inr (.inl (some (0, 0))))), (1, .inl x), (2, .inr (.inr (.inl (some (73, 0)))))]) (st' := [.inl 1]) (m' := m1) (o := none) rfl trivial ?_
        exact ww_rI rfl rfl ⟨_, rfl, znn_th, zB_mono hGm1 (by omega), hFm1, Or.inr (Or.inl (⟨rfl, by omega, (hr2.2.2.elim (fun z => z.2) (fun z => absurd z.1 (by decide)))⟩))⟩
      · refine ⟨15, 16, [(0, .inr (.inr (.inl (some (0, 0))))), (1, .inl x), (2, .inr (.inr (.inl (some (73, 0)))))], rfl, rfl, ?_⟩
        refine ww_go 1 (pc' := 17) (L' := [(0, .inr (.inr (.inl (some (0, 0))))), (1, .inl x), (2, .inr (.inr (.inl (some (73, 0)))))]) (st' := [.inl 2]) (m' := m1) (o := none) rfl trivial ?_
        exact ww_rI rfl rfl ⟨_, rfl, znn_th, zB_mono hGm1 (by omega), hFm1, Or.inr (Or.inr (⟨rfl, by omega, (hr2.2.2.elim (fun z => absurd z.1 (by decide)) (fun z => z.2.2.2))⟩))⟩
set_option maxRecDepth 8000 in
/-- the law's remove -/
theorem zs172 {sc : xSc} {n : Nat × Nat} {m0 : wm} {c : Int} (hn : n.1 < 2300) (hc : 0 ≤ c ∧ c ≤ 960000) (x : Int) (hG : zB c m0) (h0 : -2147483648 ≤ x ∧ x ≤ 2147483647) (hD : zDi m0) : wX (zK sc) 172 [.inr (.inr (.inl (some (0, 0)))), .inl x, .inr (.inr (.inl (some (73, 0))))] n m0 (wr (fun vv n1 m1 => ∃ r : Int, vv = some (.inl r) ∧ znn n n1 ∧ zB c m1 ∧ zfr (fun k i j => (k = 1 ∧ i = 0 ∧ j = 1) ∨ (k = 6 ∧ i = x.toNat ∧ j = 3 ∧ 0 ≤ x ∧ x ≤ 1) ∨ (k = 7 ∧ i = x.toNat ∧ 0 ≤ x ∧ x ≤ 1) ∨ (k = 8 ∧ i = x.toNat ∧ 0 ≤ x ∧ x ≤ 1) ∨ (k = 73)) m0 m1 ∧ ((r = 0 ∧ ∃ y : Int, m1.2.1 73 0 0 = wi2l y ∧ (m1.1 1 0 1 = 0 ∧ m1.1 1 1 1 = m0.1 1 1 1 ∧ 0 ≤ x ∧ x ≤ 1 ∧ 0 ≤ y ∧ y ≤ 1) ∧ (zTake (zCF m0 x.toNat) (m0.1 6 x.toNat 3) (zBR m0 0) (zCF m1 x.toNat) (m1.1 6 x.toNat 3) y ∧ zDi m1)) ∨ (r = 1 ∧ (m1.1 1 0 1 = 0 ∧ m1.1 1 1 1 = m0.1 1 1 1 ∧ (x < 0 ∨ 1 < x)) ∧ (zfr (fun k i j => k = 1 ∧ i < 2 ∧ j = 1) m0 m1))))) := by
  refine wX_of (N := zM172) rfl (Nat.le_of_ble_eq_true rfl) ?_
  show wW (zK sc) zM172 0 [(0, .inr (.inr (.inl (some (0, 0))))), (1, .inl x), (2, .inr (.inr (.inl (some (73, 0)))))] [] n m0 _
  have hF : zfr (fun k i j => (k = 1 ∧ i = 0 ∧ j = 1) ∨ (k = 6 ∧ i = x.toNat ∧ j = 3 ∧ 0 ≤ x ∧ x ≤ 1) ∨ (k = 7 ∧ i = x.toNat ∧ 0 ≤ x ∧ x ≤ 1) ∨ (k = 8 ∧ i = x.toNat ∧ 0 ≤ x ∧ x ≤ 1) ∨ (k = 73)) m0 m0 := zfr_rf
  refine ww_go 4 (pc' := 4) (L' := [(0, .inr (.inr (.inl (some (0, 0))))), (1, .inl x), (2, .inr (.inr (.inl (some (73, 0)))))]) (st' := [.inl x, .inr (.inr (.inl (some (0, 0)))), .inl 0, .inr (.inr (.inl (some (73, 0))))]) (m' := m0) (o := none) rfl trivial ?_
  refine ww_callC (vs := [.inr (.inr (.inl (some (0, 0)))), .inl x]) (r := [.inl 0, .inr (.inr (.inl (some (73, 0))))]) (p := 0 < 1) rfl rfl rfl rfl (show 0 < 1 from by omega) (fun h => h.elim (fun z => Bool.noConfusion (show false = true from z)) (fun z => Bool.noConfusion (show true = false from z))) rfl (zs18 (c := c) hn (by omega) x hG (by omega) hD) (fun vq nq m1 hq => ?_) (fun kq nq m1 hq => ?_)
  · obtain ⟨hGm1, hEm1, hq⟩ := hq
    rcases hq with ⟨r3, hv, rfl, hr2⟩ | ⟨q9, hv, _⟩
    · obtain rfl := Sum.inl.inj hv
      have hFm1 : zfr (fun k i j => (k = 1 ∧ i = 0 ∧ j = 1) ∨ (k = 6 ∧ i = x.toNat ∧ j = 3 ∧ 0 ≤ x ∧ x ≤ 1) ∨ (k = 7 ∧ i = x.toNat ∧ 0 ≤ x ∧ x ≤ 1) ∨ (k = 8 ∧ i = x.toNat ∧ 0 ≤ x ∧ x ≤ 1) ∨ (k = 73)) m0 m1 := zfr_tr hF hEm1 (fun k i j z => Or.elim z (fun z => Or.inl z) (fun z => Or.elim z (fun z => Or.inr (Or.inl z)) (fun z => Or.elim z (fun z => Or.inr (Or.inr (Or.inl z))) (fun z => Or.inr (Or.inr (Or.inr (Or.inl z)))))))
      show wW (zK sc) zM172 7 [(0, .inr (.inr (.inl (some (0, 0))))), (1, .inl x), (2, .inr (.inr (.inl (some (73, 0)))))] [.inl r3, .inl 0, .inr (.inr (.inl (some (73, 0))))] _ _ _
      refine ww_if (t := 14) rfl rfl (by omega) (fun (h4 : r3 = 0) => ?_) (fun (h4 : ¬ (r3 = 0)) => ?_)
      · show wW (zK sc) zM172 14 [(0, .inr (.inr (.inl (some (0, 0))))), (1, .inl x), (2, .inr (.inr (.inl (some (73, 0)))))] [.inl 0, .inr (.inr (.inl (some (73, 0))))] _ _ _
        refine ww_go 2 (pc' := 16) (L' := [(0, .inr (.inr (.inl (some (0, 0))))), (1, .inl x), (2, .inr (.inr (.inl (some (73, 0)))))]) (st' := []) (m' := wuL m1 73 0 0 (Int64.ofNat 0)) (o := some ((0 < 1 ∧ 0 ≤ (0 : Int) ∧ (0 : Int) < ((1 : Nat) : Int)))) rfl (show (0 < 1 ∧ 0 ≤ (0 : Int) ∧ (0 : Int) < ((1 : Nat) : Int)) from by omega) ?_
        obtain ⟨m5, hm5⟩ : ∃ zq9 : wm, zq9 = wuL m1 73 0 0 (Int64.ofNat 0) := ⟨_, rfl⟩
        rw [← hm5]
        have hGm5 : zB c m5 := by rw [hm5]; exact zB_wL hGm1
        have hFm5 : zfr (fun k i j => (k = 1 ∧ i = 0 ∧ j = 1) ∨ (k = 6 ∧ i = x.toNat ∧ j = 3 ∧ 0 ≤ x ∧ x ≤ 1) ∨ (k = 7 ∧ i = x.toNat ∧ 0 ≤ x ∧ x ≤ 1) ∨ (k = 8 ∧ i = x.toNat ∧ 0 ≤ x ∧ x ≤ 1) ∨ (k = 73)) m0 m5 := by rw [hm5]; exact zfr_wL hFm1 (show (73 = 1 ∧ 0 = 0 ∧ 0 = 1) ∨ (73 = 6 ∧ 0 = x.toNat ∧ 0 = 3 ∧ 0 ≤ x ∧ x ≤ 1) ∨ (73 = 7 ∧ 0 = x.toNat ∧ 0 ≤ x ∧ x ≤ 1) ∨ (73 = 8 ∧ 0 = x.toNat ∧ 0 ≤ x ∧ x ≤ 1) ∨ (73 = 73) from Or.inr (Or.inr (Or.inr (Or.inr (rfl)))))
        have ho6 : m5.2.1 73 0 0 = wi2l 0 := by rw [hm5]; exact wuL_self.trans (by decide)
        have w7 : m5.1 1 0 1 = m1.1 1 0 1 := by rw [hm5]; rfl
        have w8 : m5.1 1 1 1 = m1.1 1 1 1 := by rw [hm5]; rfl
        refine ww_go 2 (pc' := 23) (L' := [(0, .inr (.inr (.inl (some (0, 0))))), (1, .inl x), (2, .inr (.inr (.inl (some (73, 0)))))]) (st' := [.inl 0]) (m' := m5) (o := none) rfl trivial ?_
        exact ww_rI rfl rfl ⟨_, rfl, znn_rf, zB_mono hGm5 (by omega), hFm5, Or.inl (⟨rfl, _, ho6, by omega, (by rw [hm5]; have z9 := hr2.2.2.2.2.2.2; rw [show r3 = 0 from by omega] at z9; exact z9)⟩)⟩
      · show wW (zK sc) zM172 10 [(0, .inr (.inr (.inl (some (0, 0))))), (1, .inl x), (2, .inr (.inr (.inl (some (73, 0)))))] [.inl 0, .inr (.inr (.inl (some (73, 0))))] _ _ _
        refine ww_go 3 (pc' := 16) (L' := [(0, .inr (.inr (.inl (some (0, 0))))), (1, .inl x), (2, .inr (.inr (.inl (some (73, 0)))))]) (st' := []) (m' := wuL m1 73 0 0 (Int64.ofNat 1)) (o := some ((0 < 1 ∧ 0 ≤ (0 : Int) ∧ (0 : Int) < ((1 : Nat) : Int)))) rfl (show (0 < 1 ∧ 0 ≤ (0 : Int) ∧ (0 : Int) < ((1 : Nat) : Int)) from by omega) ?_
        obtain ⟨m9, hm9⟩ : ∃ zq9 : wm, zq9 = wuL m1 73 0 0 (Int64.ofNat 1) := ⟨_, rfl⟩
        rw [← hm9]
        have hGm9 : zB c m9 := by rw [hm9]; exact zB_wL hGm1
        have hFm9 : zfr (fun k i j => (k = 1 ∧ i = 0 ∧ j = 1) ∨ (k = 6 ∧ i = x.toNat ∧ j = 3 ∧ 0 ≤ x ∧ x ≤ 1) ∨ (k = 7 ∧ i = x.toNat ∧ 0 ≤ x ∧ x ≤ 1) ∨ (k = 8 ∧ i = x.toNat ∧ 0 ≤ x ∧ x ≤ 1) ∨ (k = 73)) m0 m9 := by rw [hm9]; exact zfr_wL hFm1 (show (73 = 1 ∧ 0 = 0 ∧ 0 = 1) ∨ (73 = 6 ∧ 0 = x.toNat ∧ 0 = 3 ∧ 0 ≤ x ∧ x ≤ 1) ∨ (73 = 7 ∧ 0 = x.toNat ∧ 0 ≤ x ∧ x ≤ 1) ∨ (73 = 8 ∧ 0 = x.toNat ∧ 0 ≤ x ∧ x ≤ 1) ∨ (73 = 73) from Or.inr (Or.inr (Or.inr (Or.inr (rfl)))))
        have ho10 : m9.2.1 73 0 0 = wi2l 1 := by rw [hm9]; exact wuL_self.trans (by decide)
        have w11 : m9.1 1 0 1 = m1.1 1 0 1 := by rw [hm9]; rfl
        have w12 : m9.1 1 1 1 = m1.1 1 1 1 := by rw [hm9]; rfl
        refine ww_go 2 (pc' := 23) (L' := [(0, .inr (.inr (.inl (some (0, 0))))), (1, .inl x), (2, .inr (.inr (.inl (some (73, 0)))))]) (st' := [.inl 0]) (m' := m9) (o := none) rfl trivial ?_
        exact ww_rI rfl rfl ⟨_, rfl, znn_rf, zB_mono hGm9 (by omega), hFm9, Or.inl (⟨rfl, _, ho10, by omega, (by rw [hm9]; have z9 := hr2.2.2.2.2.2.2; rw [show r3 = 1 from by omega] at z9; exact z9)⟩)⟩
    · cases hv
  · obtain ⟨hGm1, hEm1, hq⟩ := hq
    rcases hq with ⟨_, hv, _⟩ | ⟨q9, hv, rfl, hr2⟩
    · cases hv
    · obtain rfl := Sum.inr.inj hv
      have hFm1 : zfr (fun k i j => (k = 1 ∧ i = 0 ∧ j = 1) ∨ (k = 6 ∧ i = x.toNat ∧ j = 3 ∧ 0 ≤ x ∧ x ≤ 1) ∨ (k = 7 ∧ i = x.toNat ∧ 0 ≤ x ∧ x ≤ 1) ∨ (k = 8 ∧ i = x.toNat ∧ 0 ≤ x ∧ x ≤ 1) ∨ (k = 73)) m0 m1 := zfr_tr hF hEm1 (fun k i j z => Or.elim z (fun z => Or.inl z) (fun z => Or.elim z (fun z => Or.inr (Or.inl z)) (fun z => Or.elim z (fun z => Or.inr (Or.inr (Or.inl z))) (fun z => Or.inr (Or.inr (Or.inr (Or.inl z)))))))
      rcases (show kq = 0 from by omega) with rfl
      · refine ⟨19, 20, [(0, .inr (.inr (.inl (some (0, 0))))), (1, .inl x), (2, .inr (.inr (.inl (some (73, 0)))))], rfl, rfl, ?_⟩
        refine ww_go 1 (pc' := 21) (L' := [(0, .inr (.inr (.inl (some (0, 0))))), (1, .inl x), (2, .inr (.inr (.inl (some (73, 0)))))]) (st' := [.inl 1]) (m' := m1) (o := none) rfl trivial ?_
        exact ww_rI rfl rfl ⟨_, rfl, znn_th, zB_mono hGm1 (by omega), hFm1, Or.inr (⟨rfl, by omega, hr2.2.2.2.2⟩)⟩
set_option maxRecDepth 8000 in
/-- the law's commit -/
theorem zs161 {sc : xSc} {n : Nat × Nat} {m0 : wm} {c : Int} (hn : n.1 < 2300) (hc : 0 ≤ c ∧ c ≤ 960000) (x : Int) (hG : zB c m0) (h0 : -2147483648 ≤ x ∧ x ≤ 2147483647) : wX (zK sc) 161 [.inr (.inr (.inl (some (0, 0)))), .inl x, .inr (.inr (.inl (some (73, 0))))] n m0 (wr (fun vv n1 m1 => ∃ r : Int, vv = some (.inl r) ∧ znn n n1 ∧ zB c m1 ∧ zfr (fun k i j => (k = 3 ∧ j = 3) ∨ (k = 5) ∨ (k = 10 ∧ 3 * x.toNat ≤ i ∧ i < 3 * x.toNat + 3 ∧ 0 ≤ x ∧ x ≤ 1) ∨ (k = 1 ∧ 59 ≤ i ∧ i < 101 ∧ j = 1) ∨ (k = 2 ∧ 59 ≤ i ∧ i < 101) ∨ (k = 6 ∧ i = x.toNat ∧ 0 ≤ x ∧ x ≤ 1 ∧ j = 4) ∨ (k = 73)) m0 m1 ∧ ((r = 0 ∧ ∃ y : Int, m1.2.1 73 0 0 = wi2l y ∧ (0 ≤ x ∧ x ≤ 1 ∧ m0.1 6 x.toNat 4 < 1000 ∧ m1.1 6 x.toNat 4 = m0.1 6 x.toNat 4 + 1 ∧ y = m0.1 6 x.toNat 4 + 1) ∧ (zRec m0 m1 (3 * x.toNat + ((m0.1 6 x.toNat 4 + 1) % 3).toNat) x.toNat (m0.1 6 x.toNat 4 + 1) ∧ m1.1 5 0 0 = 0 ∧ m1.1 5 0 1 = 0 ∧ m1.1 3 0 3 = 0)) ∨ (r = 1 ∧ ((x < 0 ∨ 1 < x)) ∧ (m0 = m1)) ∨ (r = 2 ∧ (0 ≤ x ∧ x ≤ 1 ∧ m0.1 6 x.toNat 4 = 1000) ∧ (m0 = m1))))) := by
  refine wX_of (N := zM161) rfl (Nat.le_of_ble_eq_true rfl) ?_
  show wW (zK sc) zM161 0 [(0, .inr (.inr (.inl (some (0, 0))))), (1, .inl x), (2, .inr (.inr (.inl (some (73, 0)))))] [] n m0 _
  have hF : zfr (fun k i j => (k = 3 ∧ j = 3) ∨ (k = 5) ∨ (k = 10 ∧ 3 * x.toNat ≤ i ∧ i < 3 * x.toNat + 3 ∧ 0 ≤ x ∧ x ≤ 1) ∨ (k = 1 ∧ 59 ≤ i ∧ i < 101 ∧ j = 1) ∨ (k = 2 ∧ 59 ≤ i ∧ i < 101) ∨ (k = 6 ∧ i = x.toNat ∧ 0 ≤ x ∧ x ≤ 1 ∧ j = 4) ∨ (k = 73)) m0 m0 := zfr_rf
  refine ww_go 4 (pc' := 4) (L' := [(0, .inr (.inr (.inl (some (0, 0))))), (1, .inl x), (2, .inr (.inr (.inl (some (73, 0)))))]) (st' := [.inl x, .inr (.inr (.inl (some (0, 0)))), .inl 0, .inr (.inr (.inl (some (73, 0))))]) (m' := m0) (o := none) rfl trivial ?_
  refine ww_callC (vs := [.inr (.inr (.inl (some (0, 0)))), .inl x]) (r := [.inl 0, .inr (.inr (.inl (some (73, 0))))]) (p := 0 < 1) rfl rfl rfl rfl (show 0 < 1 from by omega) (fun h => h.elim (fun z => Bool.noConfusion (show false = true from z)) (fun z => Bool.noConfusion (show true = false from z))) rfl (zs5 (c := c) hn (by omega) x hG (by omega)) (fun vq nq m1 hq => ?_) (fun kq nq m1 hq => ?_)
  · obtain ⟨hGm1, hEm1, hq⟩ := hq
    rcases hq with ⟨r3, hv, rfl, hr2⟩ | ⟨q9, hv, _⟩
    · obtain rfl := Sum.inl.inj hv
      have hFm1 : zfr (fun k i j => (k = 3 ∧ j = 3) ∨ (k = 5) ∨ (k = 10 ∧ 3 * x.toNat ≤ i ∧ i < 3 * x.toNat + 3 ∧ 0 ≤ x ∧ x ≤ 1) ∨ (k = 1 ∧ 59 ≤ i ∧ i < 101 ∧ j = 1) ∨ (k = 2 ∧ 59 ≤ i ∧ i < 101) ∨ (k = 6 ∧ i = x.toNat ∧ 0 ≤ x ∧ x ≤ 1 ∧ j = 4) ∨ (k = 73)) m0 m1 := zfr_tr hF hEm1 (fun k i j z => Or.elim z (fun z => Or.inl z) (fun z => Or.elim z (fun z => Or.inr (Or.inl z)) (fun z => Or.elim z (fun z => Or.inr (Or.inr (Or.inl z))) (fun z => Or.elim z (fun z => Or.inr (Or.inr (Or.inr (Or.inl z)))) (fun z => Or.elim z (fun z => Or.inr (Or.inr (Or.inr (Or.inr (Or.inl z))))) (fun z => Or.inr (Or.inr (Or.inr (Or.inr (Or.inr (Or.inl z)))))))))))
      show wW (zK sc) zM161 7 [(0, .inr (.inr (.inl (some (0, 0))))), (1, .inl x), (2, .inr (.inr (.inl (some (73, 0)))))] [.inl r3, .inl 0, .inr (.inr (.inl (some (73, 0))))] _ _ _
      refine ww_go 2 (pc' := 9) (L' := [(0, .inr (.inr (.inl (some (0, 0))))), (1, .inl x), (2, .inr (.inr (.inl (some (73, 0)))))]) (st' := []) (m' := wuL m1 73 0 0 (wi2l r3)) (o := some ((0 < 1 ∧ 0 ≤ (0 : Int) ∧ (0 : Int) < ((1 : Nat) : Int)))) rfl (show (0 < 1 ∧ 0 ≤ (0 : Int) ∧ (0 : Int) < ((1 : Nat) : Int)) from by omega) ?_
      obtain ⟨m4, hm4⟩ : ∃ zq9 : wm, zq9 = wuL m1 73 0 0 (wi2l r3) := ⟨_, rfl⟩
      rw [← hm4]
      have hGm4 : zB c m4 := by rw [hm4]; exact zB_wL hGm1
      have hFm4 : zfr (fun k i j => (k = 3 ∧ j = 3) ∨ (k = 5) ∨ (k = 10 ∧ 3 * x.toNat ≤ i ∧ i < 3 * x.toNat + 3 ∧ 0 ≤ x ∧ x ≤ 1) ∨ (k = 1 ∧ 59 ≤ i ∧ i < 101 ∧ j = 1) ∨ (k = 2 ∧ 59 ≤ i ∧ i < 101) ∨ (k = 6 ∧ i = x.toNat ∧ 0 ≤ x ∧ x ≤ 1 ∧ j = 4) ∨ (k = 73)) m0 m4 := by rw [hm4]; exact zfr_wL hFm1 (show (73 = 3 ∧ 0 = 3) ∨ (73 = 5) ∨ (73 = 10 ∧ 3 * x.toNat ≤ 0 ∧ 0 < 3 * x.toNat + 3 ∧ 0 ≤ x ∧ x ≤ 1) ∨ (73 = 1 ∧ 59 ≤ 0 ∧ 0 < 101 ∧ 0 = 1) ∨ (73 = 2 ∧ 59 ≤ 0 ∧ 0 < 101) ∨ (73 = 6 ∧ 0 = x.toNat ∧ 0 ≤ x ∧ x ≤ 1 ∧ 0 = 4) ∨ (73 = 73) from Or.inr (Or.inr (Or.inr (Or.inr (Or.inr (Or.inr (rfl)))))))
      have ho5 : m4.2.1 73 0 0 = wi2l r3 := by rw [hm4]; exact wuL_self
      have w6 : m4.1 6 x.toNat 4 = m1.1 6 x.toNat 4 := by rw [hm4]; rfl
      refine ww_go 2 (pc' := 19) (L' := [(0, .inr (.inr (.inl (some (0, 0))))), (1, .inl x), (2, .inr (.inr (.inl (some (73, 0)))))]) (st' := [.inl 0]) (m' := m4) (o := none) rfl trivial ?_
      exact ww_rI rfl rfl ⟨_, rfl, znn_rf, zB_mono hGm4 (by omega), hFm4, Or.inl (⟨rfl, _, ho5, by omega, (by rw [hm4]; exact (hr2).2.2.2.2.2)⟩)⟩
    · cases hv
  · obtain ⟨hGm1, hEm1, hq⟩ := hq
    rcases hq with ⟨_, hv, _⟩ | ⟨q9, hv, rfl, hr2⟩
    · cases hv
    · obtain rfl := Sum.inr.inj hv
      have hFm1 : zfr (fun k i j => (k = 3 ∧ j = 3) ∨ (k = 5) ∨ (k = 10 ∧ 3 * x.toNat ≤ i ∧ i < 3 * x.toNat + 3 ∧ 0 ≤ x ∧ x ≤ 1) ∨ (k = 1 ∧ 59 ≤ i ∧ i < 101 ∧ j = 1) ∨ (k = 2 ∧ 59 ≤ i ∧ i < 101) ∨ (k = 6 ∧ i = x.toNat ∧ 0 ≤ x ∧ x ≤ 1 ∧ j = 4) ∨ (k = 73)) m0 m1 := zfr_tr hF hEm1 (fun k i j z => Or.elim z (fun z => Or.inl z) (fun z => Or.elim z (fun z => Or.inr (Or.inl z)) (fun z => Or.elim z (fun z => Or.inr (Or.inr (Or.inl z))) (fun z => Or.elim z (fun z => Or.inr (Or.inr (Or.inr (Or.inl z)))) (fun z => Or.elim z (fun z => Or.inr (Or.inr (Or.inr (Or.inr (Or.inl z))))) (fun z => Or.inr (Or.inr (Or.inr (Or.inr (Or.inr (Or.inl z)))))))))))
      rcases (show kq = 0 ∨ kq = 1 from by omega) with rfl | rfl
      · refine ⟨12, 13, [(0, .inr (.inr (.inl (some (0, 0))))), (1, .inl x), (2, .inr (.inr (.inl (some (73, 0)))))], rfl, rfl, ?_⟩
        refine ww_go 1 (pc' := 14) (L' := [(0, .inr (.inr (.inl (some (0, 0))))), (1, .inl x), (2, .inr (.inr (.inl (some (73, 0)))))]) (st' := [.inl 1]) (m' := m1) (o := none) rfl trivial ?_
        exact ww_rI rfl rfl ⟨_, rfl, znn_th, zB_mono hGm1 (by omega), hFm1, Or.inr (Or.inl (⟨rfl, by omega, (Or.elim hr2 (fun z => z.2.2) (fun z => absurd z.1 (by decide)))⟩))⟩
      · refine ⟨15, 16, [(0, .inr (.inr (.inl (some (0, 0))))), (1, .inl x), (2, .inr (.inr (.inl (some (73, 0)))))], rfl, rfl, ?_⟩
        refine ww_go 1 (pc' := 17) (L' := [(0, .inr (.inr (.inl (some (0, 0))))), (1, .inl x), (2, .inr (.inr (.inl (some (73, 0)))))]) (st' := [.inl 2]) (m' := m1) (o := none) rfl trivial ?_
        exact ww_rI rfl rfl ⟨_, rfl, znn_th, zB_mono hGm1 (by omega), hFm1, Or.inr (Or.inr (⟨rfl, by omega, (Or.elim hr2 (fun z => absurd z.1 (by decide)) (fun z => z.2.2.2.2))⟩))⟩
set_option maxRecDepth 8000 in
/-- the law's send -/
theorem zs175 {sc : xSc} {n : Nat × Nat} {m0 : wm} {c : Int} (hn : n.1 < 2300) (hc : 0 ≤ c ∧ c ≤ 960000)  (hG : zB c m0) (hn9 : zNP m0) : wX (zK sc) 175 [.inr (.inr (.inl (some (0, 0)))), .inr (.inr (.inl (some (73, 0))))] n m0 (wr (fun vv n1 m1 => ∃ r : Int, vv = some (.inl r) ∧ znn n n1 ∧ zB (c + 1) m1 ∧ zfr (fun k i j => (k = 1 ∧ i = 3 + (m0.1 0 0 7 % 32).toNat ∧ j = 1) ∨ (k = 2 ∧ i = 3 + (m0.1 0 0 7 % 32).toNat) ∨ (k = 3 ∧ j = 3) ∨ (k = 5) ∨ (k = 0) ∨ (k = 73)) m0 m1 ∧ ((r = 0 ∧ ∃ y : Int, m1.2.1 73 0 0 = wi2l y ∧ ((1 ≤ zPO m0 0 ∨ 1 ≤ zPO m0 1) ∧ y = m0.1 0 0 7 % 32 ∧ m1.1 0 0 7 = m0.1 0 0 7 + 1) ∧ (m1.1 1 (3 + y.toNat) 1 = 24 ∧ zNP m1 ∧ zNxt m0 m1 (3 + y.toNat))) ∨ (r = 1 ∧ (zPO m0 0 = 0) ∧ (m0 = m1))))) := by
  refine wX_of (N := zM175) rfl (Nat.le_of_ble_eq_true rfl) ?_
  show wW (zK sc) zM175 0 [(0, .inr (.inr (.inl (some (0, 0))))), (1, .inr (.inr (.inl (some (73, 0)))))] [] n m0 _
  have hF : zfr (fun k i j => (k = 1 ∧ i = 3 + (m0.1 0 0 7 % 32).toNat ∧ j = 1) ∨ (k = 2 ∧ i = 3 + (m0.1 0 0 7 % 32).toNat) ∨ (k = 3 ∧ j = 3) ∨ (k = 5) ∨ (k = 0) ∨ (k = 73)) m0 m0 := zfr_rf
  refine ww_go 3 (pc' := 3) (L' := [(0, .inr (.inr (.inl (some (0, 0))))), (1, .inr (.inr (.inl (some (73, 0)))))]) (st' := [.inr (.inr (.inl (some (0, 0)))), .inl 0, .inr (.inr (.inl (some (73, 0))))]) (m' := m0) (o := none) rfl trivial ?_
  refine ww_callC (vs := [.inr (.inr (.inl (some (0, 0))))]) (r := [.inl 0, .inr (.inr (.inl (some (73, 0))))]) (p := 0 < 1) rfl rfl rfl rfl (show 0 < 1 from by omega) (fun h => h.elim (fun z => Bool.noConfusion (show false = true from z)) (fun z => Bool.noConfusion (show true = false from z))) rfl (zs22 (c := c) hn (by omega) hG hn9) (fun vq nq m1 hq => ?_) (fun kq nq m1 hq => ?_)
  · obtain ⟨hGm1, hEm1, hq⟩ := hq
    rcases hq with ⟨r3, hv, rfl, hr2⟩ | ⟨q9, hv, _⟩
    · obtain rfl := Sum.inl.inj hv
      have hFm1 : zfr (fun k i j => (k = 1 ∧ i = 3 + (m0.1 0 0 7 % 32).toNat ∧ j = 1) ∨ (k = 2 ∧ i = 3 + (m0.1 0 0 7 % 32).toNat) ∨ (k = 3 ∧ j = 3) ∨ (k = 5) ∨ (k = 0) ∨ (k = 73)) m0 m1 := zfr_tr hF hEm1 (fun k i j z => Or.elim z (fun z => Or.inl z) (fun z => Or.elim z (fun z => Or.inr (Or.inl z)) (fun z => Or.elim z (fun z => Or.inr (Or.inr (Or.inl z))) (fun z => Or.elim z (fun z => Or.inr (Or.inr (Or.inr (Or.inl z)))) (fun z => Or.inr (Or.inr (Or.inr (Or.inr (Or.inl z)))))))))
      show wW (zK sc) zM175 6 [(0, .inr (.inr (.inl (some (0, 0))))), (1, .inr (.inr (.inl (some (73, 0)))))] [.inl r3, .inl 0, .inr (.inr (.inl (some (73, 0))))] _ _ _
      refine ww_go 2 (pc' := 8) (L' := [(0, .inr (.inr (.inl (some (0, 0))))), (1, .inr (.inr (.inl (some (73, 0)))))]) (st' := []) (m' := wuL m1 73 0 0 (wi2l r3)) (o := some ((0 < 1 ∧ 0 ≤ (0 : Int) ∧ (0 : Int) < ((1 : Nat) : Int)))) rfl (show (0 < 1 ∧ 0 ≤ (0 : Int) ∧ (0 : Int) < ((1 : Nat) : Int)) from by omega) ?_
      obtain ⟨m4, hm4⟩ : ∃ zq9 : wm, zq9 = wuL m1 73 0 0 (wi2l r3) := ⟨_, rfl⟩
      rw [← hm4]
      have hGm4 : zB (c + 1) m4 := by rw [hm4]; exact zB_wL hGm1
      have hFm4 : zfr (fun k i j => (k = 1 ∧ i = 3 + (m0.1 0 0 7 % 32).toNat ∧ j = 1) ∨ (k = 2 ∧ i = 3 + (m0.1 0 0 7 % 32).toNat) ∨ (k = 3 ∧ j = 3) ∨ (k = 5) ∨ (k = 0) ∨ (k = 73)) m0 m4 := by rw [hm4]; exact zfr_wL hFm1 (show (73 = 1 ∧ 0 = 3 + (m0.1 0 0 7 % 32).toNat ∧ 0 = 1) ∨ (73 = 2 ∧ 0 = 3 + (m0.1 0 0 7 % 32).toNat) ∨ (73 = 3 ∧ 0 = 3) ∨ (73 = 5) ∨ (73 = 0) ∨ (73 = 73) from Or.inr (Or.inr (Or.inr (Or.inr (Or.inr (rfl))))))
      have ho5 : m4.2.1 73 0 0 = wi2l r3 := by rw [hm4]; exact wuL_self
      have w6 : m4.1 0 0 7 = m1.1 0 0 7 := by rw [hm4]; rfl
      refine ww_go 2 (pc' := 15) (L' := [(0, .inr (.inr (.inl (some (0, 0))))), (1, .inr (.inr (.inl (some (73, 0)))))]) (st' := [.inl 0]) (m' := m4) (o := none) rfl trivial ?_
      exact ww_rI rfl rfl ⟨_, rfl, znn_rf, zB_mono hGm4 (by omega), hFm4, Or.inl (⟨rfl, _, ho5, by omega, (by rw [hm4]; exact (hr2).2.2.2)⟩)⟩
    · cases hv
  · obtain ⟨hGm1, hEm1, hq⟩ := hq
    rcases hq with ⟨_, hv, _⟩ | ⟨q9, hv, rfl, hr2⟩
    · cases hv
    · obtain rfl := Sum.inr.inj hv
      have hFm1 : zfr (fun k i j => (k = 1 ∧ i = 3 + (m0.1 0 0 7 % 32).toNat ∧ j = 1) ∨ (k = 2 ∧ i = 3 + (m0.1 0 0 7 % 32).toNat) ∨ (k = 3 ∧ j = 3) ∨ (k = 5) ∨ (k = 0) ∨ (k = 73)) m0 m1 := zfr_tr hF hEm1 (fun k i j z => Or.elim z (fun z => Or.inl z) (fun z => Or.elim z (fun z => Or.inr (Or.inl z)) (fun z => Or.elim z (fun z => Or.inr (Or.inr (Or.inl z))) (fun z => Or.elim z (fun z => Or.inr (Or.inr (Or.inr (Or.inl z)))) (fun z => Or.inr (Or.inr (Or.inr (Or.inr (Or.inl z)))))))))
      rcases (show kq = 1 from by omega) with rfl
      · refine ⟨11, 12, [(0, .inr (.inr (.inl (some (0, 0))))), (1, .inr (.inr (.inl (some (73, 0)))))], rfl, rfl, ?_⟩
        refine ww_go 1 (pc' := 13) (L' := [(0, .inr (.inr (.inl (some (0, 0))))), (1, .inr (.inr (.inl (some (73, 0)))))]) (st' := [.inl 1]) (m' := m1) (o := none) rfl trivial ?_
        exact ww_rI rfl rfl ⟨_, rfl, znn_th, zB_mono hGm1 (by omega), hFm1, Or.inr (⟨rfl, by omega, (hr2).2.2⟩)⟩
set_option maxRecDepth 8000 in
/-- the law's packet -/
theorem zs168 {sc : xSc} {n : Nat × Nat} {m0 : wm} {c : Int} (hn : n.1 < 2300) (hc : 0 ≤ c ∧ c ≤ 960000) (x : Int) (y : Int) (hG : zB c m0) (h0 : -2147483648 ≤ x ∧ x ≤ 2147483647 ∧ -2147483648 ≤ y ∧ y ≤ 2147483647) : wX (zK sc) 168 [.inr (.inr (.inl (some (0, 0)))), .inl x, .inl y, .inr (.inr (.inl (some (73, 0))))] n m0 (wr (fun vv n1 m1 => ∃ r : Int, vv = some (.inl r) ∧ znn n n1 ∧ zB c m1 ∧ zfr (fun k i j => (k = 73)) m0 m1 ∧ ((r = 0 ∧ (0 ≤ x ∧ x ≤ 31 ∧ 1 ≤ m0.1 1 (3 + x.toNat) 1 ∧ (y = 0 ∨ y = 8 ∨ y = 16)) ∧ (m1.2.1 73 0 0 = zen (fun k => (zBR m0 (3 + x.toNat)).2 (y.toNat + k)) 8)) ∨ (r = 1 ∧ (¬ (0 ≤ x ∧ x ≤ 31 ∧ 1 ≤ m0.1 1 (3 + x.toNat) 1 ∧ (y = 0 ∨ y = 8 ∨ y = 16))))))) := by
  refine wX_of (N := zM168) rfl (Nat.le_of_ble_eq_true rfl) ?_
  show wW (zK sc) zM168 0 [(0, .inr (.inr (.inl (some (0, 0))))), (1, .inl x), (2, .inl y), (3, .inr (.inr (.inl (some (73, 0)))))] [] n m0 _
  have hF : zfr (fun k i j => (k = 73)) m0 m0 := zfr_rf
  refine ww_go 5 (pc' := 5) (L' := [(0, .inr (.inr (.inl (some (0, 0))))), (1, .inl x), (2, .inl y), (3, .inr (.inr (.inl (some (73, 0)))))]) (st' := [.inl y, .inl x, .inr (.inr (.inl (some (0, 0)))), .inl 0, .inr (.inr (.inl (some (73, 0))))]) (m' := m0) (o := none) rfl trivial ?_
  refine ww_callC (vs := [.inr (.inr (.inl (some (0, 0)))), .inl x, .inl y]) (r := [.inl 0, .inr (.inr (.inl (some (73, 0))))]) (p := 0 < 1) rfl rfl rfl rfl (show 0 < 1 from by omega) (fun h => h.elim (fun z => Bool.noConfusion (show false = true from z)) (fun z => Bool.noConfusion (show true = false from z))) rfl (zs14 (c := c) hn (by omega) x y hG (by omega)) (fun vq nq m1 hq => ?_) (fun kq nq m1 hq => ?_)
  · obtain ⟨hGm1, hEm1, hq⟩ := hq
    rcases hq with ⟨r3, hv, rfl, hr2⟩ | ⟨q9, hv, _⟩
    · obtain rfl := Sum.inl.inj hv
      have hFm1 : zfr (fun k i j => (k = 73)) m0 m1 := zfr_tr hF hEm1 (fun k i j z => False.elim z)
      show wW (zK sc) zM168 8 [(0, .inr (.inr (.inl (some (0, 0))))), (1, .inl x), (2, .inl y), (3, .inr (.inr (.inl (some (73, 0)))))] [.inr (.inl r3), .inl 0, .inr (.inr (.inl (some (73, 0))))] _ _ _
      refine ww_go 1 (pc' := 9) (L' := [(0, .inr (.inr (.inl (some (0, 0))))), (1, .inl x), (2, .inl y), (3, .inr (.inr (.inl (some (73, 0)))))]) (st' := []) (m' := wuL m1 73 0 0 r3) (o := some ((0 < 1 ∧ 0 ≤ (0 : Int) ∧ (0 : Int) < ((1 : Nat) : Int)))) rfl (show (0 < 1 ∧ 0 ≤ (0 : Int) ∧ (0 : Int) < ((1 : Nat) : Int)) from by omega) ?_
      obtain ⟨m4, hm4⟩ : ∃ zq9 : wm, zq9 = wuL m1 73 0 0 r3 := ⟨_, rfl⟩
      rw [← hm4]
      have hGm4 : zB c m4 := by rw [hm4]; exact zB_wL hGm1
      have hFm4 : zfr (fun k i j => (k = 73)) m0 m4 := by rw [hm4]; exact zfr_wL hFm1 (show (73 = 73) from rfl)
      have ho5 : m4.2.1 73 0 0 = r3 := by rw [hm4]; exact wuL_self
      refine ww_go 2 (pc' := 17) (L' := [(0, .inr (.inr (.inl (some (0, 0))))), (1, .inl x), (2, .inl y), (3, .inr (.inr (.inl (some (73, 0)))))]) (st' := [.inl 0]) (m' := m4) (o := none) rfl trivial ?_
      exact ww_rI rfl rfl ⟨_, rfl, znn_rf, zB_mono hGm4 (by omega), hFm4, Or.inl (⟨rfl, by omega, ho5.trans hr2.2.2.2.2⟩)⟩
    · cases hv
  · obtain ⟨hGm1, hEm1, hq⟩ := hq
    rcases hq with ⟨_, hv, _⟩ | ⟨q9, hv, rfl, hr2⟩
    · cases hv
    · obtain rfl := Sum.inr.inj hv
      have hFm1 : zfr (fun k i j => (k = 73)) m0 m1 := zfr_tr hF hEm1 (fun k i j z => False.elim z)
      rcases (show kq = 0 from by omega) with rfl
      · refine ⟨12, 14, [(0, .inr (.inr (.inl (some (0, 0))))), (1, .inl x), (2, .inl y), (3, .inr (.inr (.inl (some (73, 0)))))], rfl, rfl, ?_⟩
        refine ww_go 1 (pc' := 15) (L' := [(0, .inr (.inr (.inl (some (0, 0))))), (1, .inl x), (2, .inl y), (3, .inr (.inr (.inl (some (73, 0)))))]) (st' := [.inl 1]) (m' := m1) (o := none) rfl trivial ?_
        exact ww_rI rfl rfl ⟨_, rfl, znn_th, zB_mono hGm1 (by omega), hFm1, Or.inr (⟨rfl, by omega⟩)⟩
set_option maxRecDepth 8000 in
/-- the law's alter -/
theorem zs160 {sc : xSc} {n : Nat × Nat} {m0 : wm} {c : Int} (hn : n.1 < 2300) (hc : 0 ≤ c ∧ c ≤ 960000) (x : Int) (y : Int) (z : Int) (hG : zB c m0) (h0 : -2147483648 ≤ x ∧ x ≤ 2147483647 ∧ -2147483648 ≤ y ∧ y ≤ 2147483647 ∧ -2147483648 ≤ z ∧ z ≤ 2147483647) : wX (zK sc) 160 [.inr (.inr (.inl (some (0, 0)))), .inl x, .inl y, .inl z] n m0 (wr (fun vv n1 m1 => ∃ r : Int, vv = some (.inl r) ∧ znn n n1 ∧ zB c m1 ∧ zfr (fun k i j => (k = 2 ∧ i = 3 + x.toNat ∧ j = y.toNat ∧ 0 ≤ x ∧ x ≤ 31 ∧ 0 ≤ y ∧ y ≤ 23)) m0 m1 ∧ ((r = 0 ∧ (0 ≤ x ∧ x ≤ 31 ∧ 1 ≤ m0.1 1 (3 + x.toNat) 1 ∧ 0 ≤ y ∧ y ≤ 23) ∧ ((y < m0.1 1 (3 + x.toNat) 1 → m1.1 2 (3 + x.toNat) y.toNat = wand (wxor (m0.1 2 (3 + x.toNat) y.toNat) z) 255))) ∨ (r = 1 ∧ (¬ (0 ≤ x ∧ x ≤ 31 ∧ 1 ≤ m0.1 1 (3 + x.toNat) 1 ∧ 0 ≤ y ∧ y ≤ 23)))))) := by
  refine wX_of (N := zM160) rfl (Nat.le_of_ble_eq_true rfl) ?_
  show wW (zK sc) zM160 0 [(0, .inr (.inr (.inl (some (0, 0))))), (1, .inl x), (2, .inl y), (3, .inl z)] [] n m0 _
  have hF : zfr (fun k i j => (k = 2 ∧ i = 3 + x.toNat ∧ j = y.toNat ∧ 0 ≤ x ∧ x ≤ 31 ∧ 0 ≤ y ∧ y ≤ 23)) m0 m0 := zfr_rf
  refine ww_go 4 (pc' := 4) (L' := [(0, .inr (.inr (.inl (some (0, 0))))), (1, .inl x), (2, .inl y), (3, .inl z)]) (st' := [.inl z, .inl y, .inl x, .inr (.inr (.inl (some (0, 0))))]) (m' := m0) (o := none) rfl trivial ?_
  refine ww_callC (vs := [.inr (.inr (.inl (some (0, 0)))), .inl x, .inl y, .inl z]) (r := []) (p := 0 < 1) rfl rfl rfl rfl (show 0 < 1 from by omega) (fun h => h.elim (fun z => Bool.noConfusion (show false = true from z)) (fun z => Bool.noConfusion (show true = false from z))) rfl (zs1 (c := c) hn (by omega) x y z hG (by omega)) (fun vq nq m1 hq => ?_) (fun kq nq m1 hq => ?_)
  · obtain ⟨hGm1, hEm1, hq⟩ := hq
    rcases hq with ⟨hv, rfl, hr2⟩ | ⟨q9, hv, _⟩
    · obtain rfl := Sum.inl.inj hv
      have hFm1 : zfr (fun k i j => (k = 2 ∧ i = 3 + x.toNat ∧ j = y.toNat ∧ 0 ≤ x ∧ x ≤ 31 ∧ 0 ≤ y ∧ y ≤ 23)) m0 m1 := zfr_tr hF hEm1 (fun k i j z => z)
      show wW (zK sc) zM160 7 [(0, .inr (.inr (.inl (some (0, 0))))), (1, .inl x), (2, .inl y), (3, .inl z)] [] _ _ _
      refine ww_go 2 (pc' := 15) (L' := [(0, .inr (.inr (.inl (some (0, 0))))), (1, .inl x), (2, .inl y), (3, .inl z)]) (st' := [.inl 0]) (m' := m1) (o := none) rfl trivial ?_
      exact ww_rI rfl rfl ⟨_, rfl, znn_rf, zB_mono hGm1 (by omega), hFm1, Or.inl (⟨rfl, by omega, hr2.2.2.2.2.2⟩)⟩
    · cases hv
  · obtain ⟨hGm1, hEm1, hq⟩ := hq
    rcases hq with ⟨hv, _⟩ | ⟨q9, hv, rfl, hr2⟩
    · cases hv
    · obtain rfl := Sum.inr.inj hv
      have hFm1 : zfr (fun k i j => (k = 2 ∧ i = 3 + x.toNat ∧ j = y.toNat ∧ 0 ≤ x ∧ x ≤ 31 ∧ 0 ≤ y ∧ y ≤ 23)) m0 m1 := zfr_tr hF hEm1 (fun k i j z => z)
      rcases (show kq = 0 from by omega) with rfl
      · refine ⟨10, 12, [(0, .inr (.inr (.inl (some (0, 0))))), (1, .inl x), (2, .inl y), (3, .inl z)], rfl, rfl, ?_⟩
        refine ww_go 1 (pc' := 13) (L' := [(0, .inr (.inr (.inl (some (0, 0))))), (1, .inl x), (2, .inl y), (3, .inl z)]) (st' := [.inl 1]) (m' := m1) (o := none) rfl trivial ?_
        exact ww_rI rfl rfl ⟨_, rfl, znn_th, zB_mono hGm1 (by omega), hFm1, Or.inr (⟨rfl, by omega⟩)⟩
set_option maxRecDepth 8000 in
/-- the law's hear -/
theorem zs166 {sc : xSc} {n : Nat × Nat} {m0 : wm} {c : Int} (hn : n.1 < 2300) (hc : 0 ≤ c ∧ c ≤ 960000) (x : Int) (hG : zB c m0) (h0 : -2147483648 ≤ x ∧ x ≤ 2147483647) (hE : zCe m0) : wX (zK sc) 166 [.inr (.inr (.inl (some (0, 0)))), .inl x, .inr (.inr (.inl (some (73, 0))))] n m0 (wr (fun vv n1 m1 => ∃ r : Int, vv = some (.inl r) ∧ znn n n1 ∧ zB (c + 4) m1 ∧ zfr (fun k i j => (k = 22) ∨ (k = 23) ∨ (k = 24) ∨ (k = 25) ∨ (k = 1 ∧ 101 ≤ i ∧ i < 171 ∧ j = 1) ∨ (k = 2 ∧ 101 ≤ i ∧ i < 171) ∨ (26 ≤ k ∧ k ≤ 33 ∧ i < 10) ∨ (k = 1 ∧ i = 2 ∧ j = 1) ∨ (k = 2 ∧ i = 2) ∨ (k = 16) ∨ (k = 17) ∨ (k = 18) ∨ (k = 19) ∨ (k = 73)) m0 m1 ∧ ((r = 0 ∧ ∃ y : Int, m1.2.1 73 0 0 = wi2l y ∧ (0 ≤ x ∧ x ≤ 31 ∧ 1 ≤ m0.1 1 (3 + x.toNat) 1) ∧ (zLsO m0 m1 (3 + x.toNat) y)) ∨ (r = 1 ∧ (¬ (0 ≤ x ∧ x ≤ 31 ∧ 1 ≤ m0.1 1 (3 + x.toNat) 1)) ∧ (m0 = m1))))) := by
  refine wX_of (N := zM166) rfl (Nat.le_of_ble_eq_true rfl) ?_
  show wW (zK sc) zM166 0 [(0, .inr (.inr (.inl (some (0, 0))))), (1, .inl x), (2, .inr (.inr (.inl (some (73, 0)))))] [] n m0 _
  have hF : zfr (fun k i j => (k = 22) ∨ (k = 23) ∨ (k = 24) ∨ (k = 25) ∨ (k = 1 ∧ 101 ≤ i ∧ i < 171 ∧ j = 1) ∨ (k = 2 ∧ 101 ≤ i ∧ i < 171) ∨ (26 ≤ k ∧ k ≤ 33 ∧ i < 10) ∨ (k = 1 ∧ i = 2 ∧ j = 1) ∨ (k = 2 ∧ i = 2) ∨ (k = 16) ∨ (k = 17) ∨ (k = 18) ∨ (k = 19) ∨ (k = 73)) m0 m0 := zfr_rf
  refine ww_go 4 (pc' := 4) (L' := [(0, .inr (.inr (.inl (some (0, 0))))), (1, .inl x), (2, .inr (.inr (.inl (some (73, 0)))))]) (st' := [.inl x, .inr (.inr (.inl (some (0, 0)))), .inl 0, .inr (.inr (.inl (some (73, 0))))]) (m' := m0) (o := none) rfl trivial ?_
  refine ww_callC (vs := [.inr (.inr (.inl (some (0, 0)))), .inl x]) (r := [.inl 0, .inr (.inr (.inl (some (73, 0))))]) (p := 0 < 1) rfl rfl rfl rfl (show 0 < 1 from by omega) (fun h => h.elim (fun z => Bool.noConfusion (show false = true from z)) (fun z => Bool.noConfusion (show true = false from z))) rfl (yt10 (c := c) hn (by omega) x hG (by omega) hE) (fun vq nq m1 hq => ?_) (fun kq nq m1 hq => ?_)
  · obtain ⟨hGm1, hEm1, hq⟩ := hq
    rcases hq with ⟨r3, hv, rfl, hr2⟩ | ⟨q9, hv, _⟩
    · obtain rfl := Sum.inl.inj hv
      have hFm1 : zfr (fun k i j => (k = 22) ∨ (k = 23) ∨ (k = 24) ∨ (k = 25) ∨ (k = 1 ∧ 101 ≤ i ∧ i < 171 ∧ j = 1) ∨ (k = 2 ∧ 101 ≤ i ∧ i < 171) ∨ (26 ≤ k ∧ k ≤ 33 ∧ i < 10) ∨ (k = 1 ∧ i = 2 ∧ j = 1) ∨ (k = 2 ∧ i = 2) ∨ (k = 16) ∨ (k = 17) ∨ (k = 18) ∨ (k = 19) ∨ (k = 73)) m0 m1 := zfr_tr hF hEm1 (fun k i j z => Or.elim z (fun z => Or.inl z) (fun z => Or.elim z (fun z => Or.inr (Or.inl z)) (fun z => Or.elim z (fun z => Or.inr (Or.inr (Or.inl z))) (fun z => Or.elim z (fun z => Or.inr (Or.inr (Or.inr (Or.inl z)))) (fun z => Or.elim z (fun z => Or.inr (Or.inr (Or.inr (Or.inr (Or.inl z))))) (fun z => Or.elim z (fun z => Or.inr (Or.inr (Or.inr (Or.inr (Or.inr (Or.inl z)))))) (fun z => Or.elim z (fun z => Or.inr (Or.inr (Or.inr (Or.inr (Or.inr (Or.inr (Or.inl z))))))) (fun z => Or.elim z (fun z => Or.inr (Or.inr (Or.inr (Or.inr (Or.inr (Or.inr (Or.inr (Or.inl z)))))))) (fun z => Or.elim z (fun z => Or.inr (Or.inr (Or.inr (Or.inr (Or.inr (Or.inr (Or.inr (Or.inr (Or.inl z))))))))) (fun z => Or.elim z (fun z => Or.inr (Or.inr (Or.inr (Or.inr (Or.inr (Or.inr (Or.inr (Or.inr (Or.inr (Or.inl z)))))))))) (fun z => Or.elim z (fun z => Or.inr (Or.inr (Or.inr (Or.inr (Or.inr (Or.inr (Or.inr (Or.inr (Or.inr (Or.inr (Or.inl z))))))))))) (fun z => Or.elim z (fun z => Or.inr (Or.inr (Or.inr (Or.inr (Or.inr (Or.inr (Or.inr (Or.inr (Or.inr (Or.inr (Or.inr (Or.inl z)))))))))))) (fun z => Or.inr (Or.inr (Or.inr (Or.inr (Or.inr (Or.inr (Or.inr (Or.inr (Or.inr (Or.inr (Or.inr (Or.inr (Or.inl z)))))))))))))))))))))))))
      show wW (zK sc) zM166 7 [(0, .inr (.inr (.inl (some (0, 0))))), (1, .inl x), (2, .inr (.inr (.inl (some (73, 0)))))] [.inl r3, .inl 0, .inr (.inr (.inl (some (73, 0))))] _ _ _
      refine ww_go 2 (pc' := 9) (L' := [(0, .inr (.inr (.inl (some (0, 0))))), (1, .inl x), (2, .inr (.inr (.inl (some (73, 0)))))]) (st' := []) (m' := wuL m1 73 0 0 (wi2l r3)) (o := some ((0 < 1 ∧ 0 ≤ (0 : Int) ∧ (0 : Int) < ((1 : Nat) : Int)))) rfl (show (0 < 1 ∧ 0 ≤ (0 : Int) ∧ (0 : Int) < ((1 : Nat) : Int)) from by omega) ?_
      obtain ⟨m4, hm4⟩ : ∃ zq9 : wm, zq9 = wuL m1 73 0 0 (wi2l r3) := ⟨_, rfl⟩
      rw [← hm4]
      have hGm4 : zB (c + 4) m4 := by rw [hm4]; exact zB_wL hGm1
      have hFm4 : zfr (fun k i j => (k = 22) ∨ (k = 23) ∨ (k = 24) ∨ (k = 25) ∨ (k = 1 ∧ 101 ≤ i ∧ i < 171 ∧ j = 1) ∨ (k = 2 ∧ 101 ≤ i ∧ i < 171) ∨ (26 ≤ k ∧ k ≤ 33 ∧ i < 10) ∨ (k = 1 ∧ i = 2 ∧ j = 1) ∨ (k = 2 ∧ i = 2) ∨ (k = 16) ∨ (k = 17) ∨ (k = 18) ∨ (k = 19) ∨ (k = 73)) m0 m4 := by rw [hm4]; exact zfr_wL hFm1 (show (73 = 22) ∨ (73 = 23) ∨ (73 = 24) ∨ (73 = 25) ∨ (73 = 1 ∧ 101 ≤ 0 ∧ 0 < 171 ∧ 0 = 1) ∨ (73 = 2 ∧ 101 ≤ 0 ∧ 0 < 171) ∨ (26 ≤ 73 ∧ 73 ≤ 33 ∧ 0 < 10) ∨ (73 = 1 ∧ 0 = 2 ∧ 0 = 1) ∨ (73 = 2 ∧ 0 = 2) ∨ (73 = 16) ∨ (73 = 17) ∨ (73 = 18) ∨ (73 = 19) ∨ (73 = 73) from Or.inr (Or.inr (Or.inr (Or.inr (Or.inr (Or.inr (Or.inr (Or.inr (Or.inr (Or.inr (Or.inr (Or.inr (Or.inr (rfl))))))))))))))
      have ho5 : m4.2.1 73 0 0 = wi2l r3 := by rw [hm4]; exact wuL_self
      refine ww_go 2 (pc' := 16) (L' := [(0, .inr (.inr (.inl (some (0, 0))))), (1, .inl x), (2, .inr (.inr (.inl (some (73, 0)))))]) (st' := [.inl 0]) (m' := m4) (o := none) rfl trivial ?_
      exact ww_rI rfl rfl ⟨_, rfl, znn_rf, zB_mono hGm4 (by omega), hFm4, Or.inl (⟨rfl, _, ho5, by omega, ⟨_, hr2.2.2.2, (by rw [hm4]; exact zfr_wL zfr_rf rfl)⟩⟩)⟩
    · cases hv
  · obtain ⟨hGm1, hEm1, hq⟩ := hq
    rcases hq with ⟨_, hv, _⟩ | ⟨q9, hv, rfl, hr2⟩
    · cases hv
    · obtain rfl := Sum.inr.inj hv
      have hFm1 : zfr (fun k i j => (k = 22) ∨ (k = 23) ∨ (k = 24) ∨ (k = 25) ∨ (k = 1 ∧ 101 ≤ i ∧ i < 171 ∧ j = 1) ∨ (k = 2 ∧ 101 ≤ i ∧ i < 171) ∨ (26 ≤ k ∧ k ≤ 33 ∧ i < 10) ∨ (k = 1 ∧ i = 2 ∧ j = 1) ∨ (k = 2 ∧ i = 2) ∨ (k = 16) ∨ (k = 17) ∨ (k = 18) ∨ (k = 19) ∨ (k = 73)) m0 m1 := zfr_tr hF hEm1 (fun k i j z => Or.elim z (fun z => Or.inl z) (fun z => Or.elim z (fun z => Or.inr (Or.inl z)) (fun z => Or.elim z (fun z => Or.inr (Or.inr (Or.inl z))) (fun z => Or.elim z (fun z => Or.inr (Or.inr (Or.inr (Or.inl z)))) (fun z => Or.elim z (fun z => Or.inr (Or.inr (Or.inr (Or.inr (Or.inl z))))) (fun z => Or.elim z (fun z => Or.inr (Or.inr (Or.inr (Or.inr (Or.inr (Or.inl z)))))) (fun z => Or.elim z (fun z => Or.inr (Or.inr (Or.inr (Or.inr (Or.inr (Or.inr (Or.inl z))))))) (fun z => Or.elim z (fun z => Or.inr (Or.inr (Or.inr (Or.inr (Or.inr (Or.inr (Or.inr (Or.inl z)))))))) (fun z => Or.elim z (fun z => Or.inr (Or.inr (Or.inr (Or.inr (Or.inr (Or.inr (Or.inr (Or.inr (Or.inl z))))))))) (fun z => Or.elim z (fun z => Or.inr (Or.inr (Or.inr (Or.inr (Or.inr (Or.inr (Or.inr (Or.inr (Or.inr (Or.inl z)))))))))) (fun z => Or.elim z (fun z => Or.inr (Or.inr (Or.inr (Or.inr (Or.inr (Or.inr (Or.inr (Or.inr (Or.inr (Or.inr (Or.inl z))))))))))) (fun z => Or.elim z (fun z => Or.inr (Or.inr (Or.inr (Or.inr (Or.inr (Or.inr (Or.inr (Or.inr (Or.inr (Or.inr (Or.inr (Or.inl z)))))))))))) (fun z => Or.inr (Or.inr (Or.inr (Or.inr (Or.inr (Or.inr (Or.inr (Or.inr (Or.inr (Or.inr (Or.inr (Or.inr (Or.inl z)))))))))))))))))))))))))
      rcases (show kq = 0 from by omega) with rfl
      · refine ⟨12, 13, [(0, .inr (.inr (.inl (some (0, 0))))), (1, .inl x), (2, .inr (.inr (.inl (some (73, 0)))))], rfl, rfl, ?_⟩
        refine ww_go 1 (pc' := 14) (L' := [(0, .inr (.inr (.inl (some (0, 0))))), (1, .inl x), (2, .inr (.inr (.inl (some (73, 0)))))]) (st' := [.inl 1]) (m' := m1) (o := none) rfl trivial ?_
        exact ww_rI rfl rfl ⟨_, rfl, znn_th, zB_mono hGm1 (by omega), hFm1, Or.inr (⟨rfl, by omega, hr2.2.2⟩)⟩
set_option maxRecDepth 8000 in
/-- the law's restartSender -/
theorem zs173 {sc : xSc} {n : Nat × Nat} {m0 : wm} {c : Int} (hn : n.1 < 2300) (hc : 0 ≤ c ∧ c ≤ 960000)  (hG : zB c m0) : wX (zK sc) 173 [.inr (.inr (.inl (some (0, 0)))), .inr (.inr (.inl (some (73, 0))))] n m0 (wr (fun vv n1 m1 => ∃ r : Int, vv = some (.inl r) ∧ znn n n1 ∧ zB c m1 ∧ zfr (fun k i j => (k = 3 ∧ j = 3) ∨ (k = 5) ∨ (k = 3 ∧ j = 2) ∨ (k = 73)) m0 m1 ∧ ((r = 0 ∧ ∃ y : Int, m1.2.1 73 0 0 = wi2l y ∧ (m0.1 3 0 2 < 255 ∧ m1.1 3 0 2 = m0.1 3 0 2 + 1 ∧ y = m0.1 3 0 2 + 1) ∧ (m1.1 5 0 0 = 0 ∧ m1.1 5 0 1 = 0 ∧ m1.1 3 0 3 = 0)) ∨ (r = 1 ∧ (m0.1 3 0 2 = 255) ∧ (m0 = m1))))) := by
  refine wX_of (N := zM173) rfl (Nat.le_of_ble_eq_true rfl) ?_
  show wW (zK sc) zM173 0 [(0, .inr (.inr (.inl (some (0, 0))))), (1, .inr (.inr (.inl (some (73, 0)))))] [] n m0 _
  have hF : zfr (fun k i j => (k = 3 ∧ j = 3) ∨ (k = 5) ∨ (k = 3 ∧ j = 2) ∨ (k = 73)) m0 m0 := zfr_rf
  refine ww_go 3 (pc' := 3) (L' := [(0, .inr (.inr (.inl (some (0, 0))))), (1, .inr (.inr (.inl (some (73, 0)))))]) (st' := [.inr (.inr (.inl (some (0, 0)))), .inl 0, .inr (.inr (.inl (some (73, 0))))]) (m' := m0) (o := none) rfl trivial ?_
  refine ww_callC (vs := [.inr (.inr (.inl (some (0, 0))))]) (r := [.inl 0, .inr (.inr (.inl (some (73, 0))))]) (p := 0 < 1) rfl rfl rfl rfl (show 0 < 1 from by omega) (fun h => h.elim (fun z => Bool.noConfusion (show false = true from z)) (fun z => Bool.noConfusion (show true = false from z))) rfl (zs20 (c := c) hn (by omega) hG) (fun vq nq m1 hq => ?_) (fun kq nq m1 hq => ?_)
  · obtain ⟨hGm1, hEm1, hq⟩ := hq
    rcases hq with ⟨r3, hv, rfl, hr2⟩ | ⟨q9, hv, _⟩
    · obtain rfl := Sum.inl.inj hv
      have hFm1 : zfr (fun k i j => (k = 3 ∧ j = 3) ∨ (k = 5) ∨ (k = 3 ∧ j = 2) ∨ (k = 73)) m0 m1 := zfr_tr hF hEm1 (fun k i j z => Or.elim z (fun z => Or.inl z) (fun z => Or.elim z (fun z => Or.inr (Or.inl z)) (fun z => Or.inr (Or.inr (Or.inl z)))))
      show wW (zK sc) zM173 6 [(0, .inr (.inr (.inl (some (0, 0))))), (1, .inr (.inr (.inl (some (73, 0)))))] [.inl r3, .inl 0, .inr (.inr (.inl (some (73, 0))))] _ _ _
      refine ww_go 2 (pc' := 8) (L' := [(0, .inr (.inr (.inl (some (0, 0))))), (1, .inr (.inr (.inl (some (73, 0)))))]) (st' := []) (m' := wuL m1 73 0 0 (wi2l r3)) (o := some ((0 < 1 ∧ 0 ≤ (0 : Int) ∧ (0 : Int) < ((1 : Nat) : Int)))) rfl (show (0 < 1 ∧ 0 ≤ (0 : Int) ∧ (0 : Int) < ((1 : Nat) : Int)) from by omega) ?_
      obtain ⟨m4, hm4⟩ : ∃ zq9 : wm, zq9 = wuL m1 73 0 0 (wi2l r3) := ⟨_, rfl⟩
      rw [← hm4]
      have hGm4 : zB c m4 := by rw [hm4]; exact zB_wL hGm1
      have hFm4 : zfr (fun k i j => (k = 3 ∧ j = 3) ∨ (k = 5) ∨ (k = 3 ∧ j = 2) ∨ (k = 73)) m0 m4 := by rw [hm4]; exact zfr_wL hFm1 (show (73 = 3 ∧ 0 = 3) ∨ (73 = 5) ∨ (73 = 3 ∧ 0 = 2) ∨ (73 = 73) from Or.inr (Or.inr (Or.inr (rfl))))
      have ho5 : m4.2.1 73 0 0 = wi2l r3 := by rw [hm4]; exact wuL_self
      have w6 : m4.1 3 0 2 = m1.1 3 0 2 := by rw [hm4]; rfl
      refine ww_go 2 (pc' := 15) (L' := [(0, .inr (.inr (.inl (some (0, 0))))), (1, .inr (.inr (.inl (some (73, 0)))))]) (st' := [.inl 0]) (m' := m4) (o := none) rfl trivial ?_
      exact ww_rI rfl rfl ⟨_, rfl, znn_rf, zB_mono hGm4 (by omega), hFm4, Or.inl (⟨rfl, _, ho5, by omega, (by rw [hm4]; exact (hr2).2.2.2)⟩)⟩
    · cases hv
  · obtain ⟨hGm1, hEm1, hq⟩ := hq
    rcases hq with ⟨_, hv, _⟩ | ⟨q9, hv, rfl, hr2⟩
    · cases hv
    · obtain rfl := Sum.inr.inj hv
      have hFm1 : zfr (fun k i j => (k = 3 ∧ j = 3) ∨ (k = 5) ∨ (k = 3 ∧ j = 2) ∨ (k = 73)) m0 m1 := zfr_tr hF hEm1 (fun k i j z => Or.elim z (fun z => Or.inl z) (fun z => Or.elim z (fun z => Or.inr (Or.inl z)) (fun z => Or.inr (Or.inr (Or.inl z)))))
      rcases (show kq = 1 from by omega) with rfl
      · refine ⟨11, 12, [(0, .inr (.inr (.inl (some (0, 0))))), (1, .inr (.inr (.inl (some (73, 0)))))], rfl, rfl, ?_⟩
        refine ww_go 1 (pc' := 13) (L' := [(0, .inr (.inr (.inl (some (0, 0))))), (1, .inr (.inr (.inl (some (73, 0)))))]) (st' := [.inl 1]) (m' := m1) (o := none) rfl trivial ?_
        exact ww_rI rfl rfl ⟨_, rfl, znn_th, zB_mono hGm1 (by omega), hFm1, Or.inr (⟨rfl, by omega, (hr2).2.2⟩)⟩
set_option maxRecDepth 8000 in
/-- the law's rule -/
theorem zs174 {sc : xSc} {n : Nat × Nat} {m0 : wm} {c : Int} (hn : n.1 < 2300) (hc : 0 ≤ c ∧ c ≤ 960000) (x : Int) (y : Int) (b : Int) (hG : zB c m0) (h0 : -2147483648 ≤ x ∧ x ≤ 2147483647 ∧ -2147483648 ≤ y ∧ y ≤ 2147483647 ∧ 0 ≤ b ∧ b ≤ 1) : wX (zK sc) 174 [.inr (.inr (.inl (some (0, 0)))), .inl x, .inl y, .inl b] n m0 (wr (fun vv n1 m1 => ∃ r : Int, vv = some (.inl r) ∧ znn n n1 ∧ zB c m1 ∧ zfr (fun k i j => (k = 13) ∨ (k = 14) ∨ (k = 15)) m0 m1 ∧ ((r = 0 ∧ (x = 0 ∧ 0 ≤ y ∧ y ≤ 96 ∨ x = 1 ∧ 0 ≤ y ∧ y ≤ 6 ∨ (x = 2 ∨ x = 3) ∧ 0 ≤ y ∧ y ≤ 255)) ∨ (r = 1 ∧ ¬ (x = 0 ∧ 0 ≤ y ∧ y ≤ 96 ∨ x = 1 ∧ 0 ≤ y ∧ y ≤ 6 ∨ (x = 2 ∨ x = 3) ∧ 0 ≤ y ∧ y ≤ 255))))) := by
  refine wX_of (N := zM174) rfl (Nat.le_of_ble_eq_true rfl) ?_
  show wW (zK sc) zM174 0 [(0, .inr (.inr (.inl (some (0, 0))))), (1, .inl x), (2, .inl y), (3, .inl b)] [] n m0 _
  have hF : zfr (fun k i j => (k = 13) ∨ (k = 14) ∨ (k = 15)) m0 m0 := zfr_rf
  refine ww_go 4 (pc' := 4) (L' := [(0, .inr (.inr (.inl (some (0, 0))))), (1, .inl x), (2, .inl y), (3, .inl b)]) (st' := [.inl b, .inl y, .inl x, .inr (.inr (.inl (some (0, 0))))]) (m' := m0) (o := none) rfl trivial ?_
  refine ww_callC (vs := [.inr (.inr (.inl (some (0, 0)))), .inl x, .inl y, .inl b]) (r := []) (p := 0 < 1) rfl rfl rfl rfl (show 0 < 1 from by omega) (fun h => h.elim (fun z => Bool.noConfusion (show false = true from z)) (fun z => Bool.noConfusion (show true = false from z))) rfl (zs21 (c := c) hn (by omega) x y b hG (by omega)) (fun vq nq m1 hq => ?_) (fun kq nq m1 hq => ?_)
  · obtain ⟨hGm1, hEm1, hq⟩ := hq
    rcases hq with ⟨hv, rfl, hr2⟩ | ⟨q9, hv, _⟩
    · obtain rfl := Sum.inl.inj hv
      have hFm1 : zfr (fun k i j => (k = 13) ∨ (k = 14) ∨ (k = 15)) m0 m1 := zfr_tr hF hEm1 (fun k i j z => Or.elim z (fun z => Or.inl z) (fun z => Or.elim z (fun z => Or.inr (Or.inl z)) (fun z => Or.inr (Or.inr (z)))))
      show wW (zK sc) zM174 7 [(0, .inr (.inr (.inl (some (0, 0))))), (1, .inl x), (2, .inl y), (3, .inl b)] [] _ _ _
      refine ww_go 2 (pc' := 15) (L' := [(0, .inr (.inr (.inl (some (0, 0))))), (1, .inl x), (2, .inl y), (3, .inl b)]) (st' := [.inl 0]) (m' := m1) (o := none) rfl trivial ?_
      exact ww_rI rfl rfl ⟨_, rfl, znn_rf, zB_mono hGm1 (by omega), hFm1, by omega⟩
    · cases hv
  · obtain ⟨hGm1, hEm1, hq⟩ := hq
    rcases hq with ⟨hv, _⟩ | ⟨q9, hv, rfl, hr2⟩
    · cases hv
    · obtain rfl := Sum.inr.inj hv
      have hFm1 : zfr (fun k i j => (k = 13) ∨ (k = 14) ∨ (k = 15)) m0 m1 := zfr_tr hF hEm1 (fun k i j z => Or.elim z (fun z => Or.inl z) (fun z => Or.elim z (fun z => Or.inr (Or.inl z)) (fun z => Or.inr (Or.inr (z)))))
      rcases (show kq = 0 from by omega) with rfl
      · refine ⟨10, 12, [(0, .inr (.inr (.inl (some (0, 0))))), (1, .inl x), (2, .inl y), (3, .inl b)], rfl, rfl, ?_⟩
        refine ww_go 1 (pc' := 13) (L' := [(0, .inr (.inr (.inl (some (0, 0))))), (1, .inl x), (2, .inl y), (3, .inl b)]) (st' := [.inl 1]) (m' := m1) (o := none) rfl trivial ?_
        exact ww_rI rfl rfl ⟨_, rfl, znn_th, zB_mono hGm1 (by omega), hFm1, by omega⟩
set_option maxRecDepth 8000 in
/-- the law's have -/
theorem zs165 {sc : xSc} {n : Nat × Nat} {m0 : wm} {c : Int} (hn : n.1 < 2300) (hc : 0 ≤ c ∧ c ≤ 960000) (x : Int) (y : Int) (hG : zB c m0) (h0 : -2147483648 ≤ x ∧ x ≤ 2147483647 ∧ -2147483648 ≤ y ∧ y ≤ 2147483647) : wX (zK sc) 165 [.inr (.inr (.inl (some (0, 0)))), .inl x, .inl y, .inr (.inr (.inl (some (73, 0))))] n m0 (wr (fun vv n1 m1 => ∃ r : Int, vv = some (.inl r) ∧ znn n n1 ∧ zB c m1 ∧ zfr (fun k i j => (k = 73)) m0 m1 ∧ (True))) := by
  refine wX_of (N := zM165) rfl (Nat.le_of_ble_eq_true rfl) ?_
  show wW (zK sc) zM165 0 [(0, .inr (.inr (.inl (some (0, 0))))), (1, .inl x), (2, .inl y), (3, .inr (.inr (.inl (some (73, 0)))))] [] n m0 _
  have hF : zfr (fun k i j => (k = 73)) m0 m0 := zfr_rf
  refine ww_go 5 (pc' := 5) (L' := [(0, .inr (.inr (.inl (some (0, 0))))), (1, .inl x), (2, .inl y), (3, .inr (.inr (.inl (some (73, 0)))))]) (st' := [.inl y, .inl x, .inr (.inr (.inl (some (0, 0)))), .inl 0, .inr (.inr (.inl (some (73, 0))))]) (m' := m0) (o := none) rfl trivial ?_
  refine ww_callC (vs := [.inr (.inr (.inl (some (0, 0)))), .inl x, .inl y]) (r := [.inl 0, .inr (.inr (.inl (some (73, 0))))]) (p := 0 < 1) rfl rfl rfl rfl (show 0 < 1 from by omega) (fun h => h.elim (fun z => Bool.noConfusion (show false = true from z)) (fun z => Bool.noConfusion (show true = false from z))) rfl (zs9 (c := c) hn (by omega) x y hG (by omega)) (fun vq nq m1 hq => ?_) (fun kq nq m1 hq => ?_)
  · obtain ⟨hGm1, hEm1, hq⟩ := hq
    rcases hq with ⟨r3, hv, rfl, hr2⟩ | ⟨q9, hv, _⟩
    · obtain rfl := Sum.inl.inj hv
      have hFm1 : zfr (fun k i j => (k = 73)) m0 m1 := zfr_tr hF hEm1 (fun k i j z => False.elim z)
      show wW (zK sc) zM165 8 [(0, .inr (.inr (.inl (some (0, 0))))), (1, .inl x), (2, .inl y), (3, .inr (.inr (.inl (some (73, 0)))))] [.inl r3, .inl 0, .inr (.inr (.inl (some (73, 0))))] _ _ _
      refine ww_go 2 (pc' := 10) (L' := [(0, .inr (.inr (.inl (some (0, 0))))), (1, .inl x), (2, .inl y), (3, .inr (.inr (.inl (some (73, 0)))))]) (st' := []) (m' := wuL m1 73 0 0 (wi2l r3)) (o := some ((0 < 1 ∧ 0 ≤ (0 : Int) ∧ (0 : Int) < ((1 : Nat) : Int)))) rfl (show (0 < 1 ∧ 0 ≤ (0 : Int) ∧ (0 : Int) < ((1 : Nat) : Int)) from by omega) ?_
      obtain ⟨m4, hm4⟩ : ∃ zq9 : wm, zq9 = wuL m1 73 0 0 (wi2l r3) := ⟨_, rfl⟩
      rw [← hm4]
      have hGm4 : zB c m4 := by rw [hm4]; exact zB_wL hGm1
      have hFm4 : zfr (fun k i j => (k = 73)) m0 m4 := by rw [hm4]; exact zfr_wL hFm1 (show (73 = 73) from rfl)
      have ho5 : m4.2.1 73 0 0 = wi2l r3 := by rw [hm4]; exact wuL_self
      refine ww_go 2 (pc' := 18) (L' := [(0, .inr (.inr (.inl (some (0, 0))))), (1, .inl x), (2, .inl y), (3, .inr (.inr (.inl (some (73, 0)))))]) (st' := [.inl 0]) (m' := m4) (o := none) rfl trivial ?_
      exact ww_rI rfl rfl ⟨_, rfl, znn_rf, zB_mono hGm4 (by omega), hFm4, by trivial⟩
    · cases hv
  · obtain ⟨hGm1, hEm1, hq⟩ := hq
    rcases hq with ⟨_, hv, _⟩ | ⟨q9, hv, rfl, hr2⟩
    · cases hv
    · obtain rfl := Sum.inr.inj hv
      have hFm1 : zfr (fun k i j => (k = 73)) m0 m1 := zfr_tr hF hEm1 (fun k i j z => False.elim z)
      rcases (show kq = 0 from by omega) with rfl
      · refine ⟨13, 15, [(0, .inr (.inr (.inl (some (0, 0))))), (1, .inl x), (2, .inl y), (3, .inr (.inr (.inl (some (73, 0)))))], rfl, rfl, ?_⟩
        refine ww_go 1 (pc' := 16) (L' := [(0, .inr (.inr (.inl (some (0, 0))))), (1, .inl x), (2, .inl y), (3, .inr (.inr (.inl (some (73, 0)))))]) (st' := [.inl 1]) (m' := m1) (o := none) rfl trivial ?_
        exact ww_rI rfl rfl ⟨_, rfl, znn_th, zB_mono hGm1 (by omega), hFm1, by trivial⟩
set_option maxRecDepth 8000 in
/-- the law's rank -/
theorem zs169 {sc : xSc} {n : Nat × Nat} {m0 : wm} {c : Int} (hn : n.1 < 2300) (hc : 0 ≤ c ∧ c ≤ 960000) (x : Int) (g : Int) (z : Int) (b : Int) (hG : zB c m0) (h0 : -2147483648 ≤ x ∧ x ≤ 2147483647 ∧ -2147483648 ≤ g ∧ g ≤ 2147483647 ∧ -2147483648 ≤ z ∧ z ≤ 2147483647 ∧ -2147483648 ≤ b ∧ b ≤ 2147483647) : wX (zK sc) 169 [.inr (.inr (.inl (some (0, 0)))), .inl x, .inl g, .inl z, .inl b, .inr (.inr (.inl (some (73, 0))))] n m0 (wr (fun vv n1 m1 => ∃ r : Int, vv = some (.inl r) ∧ znn n n1 ∧ zB c m1 ∧ zfr (fun k i j => (k = 73)) m0 m1 ∧ ((r = 0 ∧ ∃ y : Int, m1.2.1 73 0 0 = wi2l y ∧ (0 ≤ x ∧ x ≤ 1 ∧ 1 ≤ g ∧ g ≤ 65535 ∧ 0 ≤ z ∧ z ≤ 6 ∧ 0 ≤ b ∧ b ≤ 1) ∧ (zRof m0 x g z b y)) ∨ (r = 1 ∧ (¬ (0 ≤ x ∧ x ≤ 1 ∧ 1 ≤ g ∧ g ≤ 65535 ∧ 0 ≤ z ∧ z ≤ 6 ∧ 0 ≤ b ∧ b ≤ 1)))))) := by
  refine wX_of (N := zM169) rfl (Nat.le_of_ble_eq_true rfl) ?_
  show wW (zK sc) zM169 0 [(0, .inr (.inr (.inl (some (0, 0))))), (1, .inl x), (2, .inl g), (3, .inl z), (4, .inl b), (5, .inr (.inr (.inl (some (73, 0)))))] [] n m0 _
  have hF : zfr (fun k i j => (k = 73)) m0 m0 := zfr_rf
  refine ww_go 7 (pc' := 9) (L' := [(0, .inr (.inr (.inl (some (0, 0))))), (1, .inl x), (2, .inl g), (3, .inl z), (4, .inl b), (5, .inr (.inr (.inl (some (73, 0)))))]) (st' := [.inl b, .inl z, .inl g, .inl x, .inr (.inr (.inl (some (0, 0)))), .inl 0, .inr (.inr (.inl (some (73, 0))))]) (m' := m0) (o := none) rfl trivial ?_
  refine ww_callC (vs := [.inr (.inr (.inl (some (0, 0)))), .inl x, .inl g, .inl z, .inl b]) (r := [.inl 0, .inr (.inr (.inl (some (73, 0))))]) (p := 0 < 1) rfl rfl rfl rfl (show 0 < 1 from by omega) (fun h => h.elim (fun z => Bool.noConfusion (show false = true from z)) (fun z => Bool.noConfusion (show true = false from z))) rfl (yt15 (c := c) hn (by omega) x g z b hG (by omega)) (fun vq nq m1 hq => ?_) (fun kq nq m1 hq => ?_)
  · obtain ⟨hGm1, hEm1, hq⟩ := hq
    rcases hq with ⟨r3, hv, rfl, hr2⟩ | ⟨q9, hv, _⟩
    · obtain rfl := Sum.inl.inj hv
      have hFm1 : zfr (fun k i j => (k = 73)) m0 m1 := zfr_tr hF hEm1 (fun k i j z => False.elim z)
      show wW (zK sc) zM169 12 [(0, .inr (.inr (.inl (some (0, 0))))), (1, .inl x), (2, .inl g), (3, .inl z), (4, .inl b), (5, .inr (.inr (.inl (some (73, 0)))))] [.inl r3, .inl 0, .inr (.inr (.inl (some (73, 0))))] _ _ _
      refine ww_go 2 (pc' := 14) (L' := [(0, .inr (.inr (.inl (some (0, 0))))), (1, .inl x), (2, .inl g), (3, .inl z), (4, .inl b), (5, .inr (.inr (.inl (some (73, 0)))))]) (st' := []) (m' := wuL m1 73 0 0 (wi2l r3)) (o := some ((0 < 1 ∧ 0 ≤ (0 : Int) ∧ (0 : Int) < ((1 : Nat) : Int)))) rfl (show (0 < 1 ∧ 0 ≤ (0 : Int) ∧ (0 : Int) < ((1 : Nat) : Int)) from by omega) ?_
      obtain ⟨m4, hm4⟩ : ∃ zq9 : wm, zq9 = wuL m1 73 0 0 (wi2l r3) := ⟨_, rfl⟩
      rw [← hm4]
      have hGm4 : zB c m4 := by rw [hm4]; exact zB_wL hGm1
      have hFm4 : zfr (fun k i j => (k = 73)) m0 m4 := by rw [hm4]; exact zfr_wL hFm1 (show (73 = 73) from rfl)
      have ho5 : m4.2.1 73 0 0 = wi2l r3 := by rw [hm4]; exact wuL_self
      refine ww_go 2 (pc' := 22) (L' := [(0, .inr (.inr (.inl (some (0, 0))))), (1, .inl x), (2, .inl g), (3, .inl z), (4, .inl b), (5, .inr (.inr (.inl (some (73, 0)))))]) (st' := [.inl 0]) (m' := m4) (o := none) rfl trivial ?_
      exact ww_rI rfl rfl ⟨_, rfl, znn_rf, zB_mono hGm4 (by omega), hFm4, Or.inl (⟨rfl, _, ho5, by omega, hr2.2⟩)⟩
    · cases hv
  · obtain ⟨hGm1, hEm1, hq⟩ := hq
    rcases hq with ⟨_, hv, _⟩ | ⟨q9, hv, rfl, hr2⟩
    · cases hv
    · obtain rfl := Sum.inr.inj hv
      have hFm1 : zfr (fun k i j => (k = 73)) m0 m1 := zfr_tr hF hEm1 (fun k i j z => False.elim z)
      rcases (show kq = 0 from by omega) with rfl
      · refine ⟨17, 19, [(0, .inr (.inr (.inl (some (0, 0))))), (1, .inl x), (2, .inl g), (3, .inl z), (4, .inl b), (5, .inr (.inr (.inl (some (73, 0)))))], rfl, rfl, ?_⟩
        refine ww_go 1 (pc' := 20) (L' := [(0, .inr (.inr (.inl (some (0, 0))))), (1, .inl x), (2, .inl g), (3, .inl z), (4, .inl b), (5, .inr (.inr (.inl (some (73, 0)))))]) (st' := [.inl 1]) (m' := m1) (o := none) rfl trivial ?_
        exact ww_rI rfl rfl ⟨_, rfl, znn_th, zB_mono hGm1 (by omega), hFm1, Or.inr (⟨rfl, by omega⟩)⟩
set_option maxRecDepth 8000 in
/-- the law's release -/
theorem zs170 {sc : xSc} {n : Nat × Nat} {m0 : wm} {c : Int} (hn : n.1 < 2300) (hc : 0 ≤ c ∧ c ≤ 960000) (x : Int) (hG : zB c m0) (h0 : -2147483648 ≤ x ∧ x ≤ 2147483647) : wX (zK sc) 170 [.inr (.inr (.inl (some (0, 0)))), .inl x, .inr (.inr (.inl (some (73, 0))))] n m0 (wr (fun vv n1 m1 => ∃ r : Int, vv = some (.inl r) ∧ znn n n1 ∧ zB (c + 1) m1 ∧ zfr (fun k i j => (26 ≤ k ∧ k ≤ 26 ∧ i < 8 ∧ j = 8) ∨ (k = 1 ∧ 157 ≤ i ∧ i < 171 ∧ j = 1) ∨ (k = 2 ∧ 157 ≤ i ∧ i < 171) ∨ (26 ≤ k ∧ k ≤ 32 ∧ 8 ≤ i ∧ i < 10) ∨ (k = 1 ∧ i = 2 ∧ j = 1) ∨ (k = 2 ∧ i = 2) ∨ (k = 16) ∨ (k = 17) ∨ (k = 18) ∨ (k = 73)) m0 m1 ∧ (True))) := by
  refine wX_of (N := zM170) rfl (Nat.le_of_ble_eq_true rfl) ?_
  show wW (zK sc) zM170 0 [(0, .inr (.inr (.inl (some (0, 0))))), (1, .inl x), (2, .inr (.inr (.inl (some (73, 0)))))] [] n m0 _
  have hF : zfr (fun k i j => (26 ≤ k ∧ k ≤ 26 ∧ i < 8 ∧ j = 8) ∨ (k = 1 ∧ 157 ≤ i ∧ i < 171 ∧ j = 1) ∨ (k = 2 ∧ 157 ≤ i ∧ i < 171) ∨ (26 ≤ k ∧ k ≤ 32 ∧ 8 ≤ i ∧ i < 10) ∨ (k = 1 ∧ i = 2 ∧ j = 1) ∨ (k = 2 ∧ i = 2) ∨ (k = 16) ∨ (k = 17) ∨ (k = 18) ∨ (k = 73)) m0 m0 := zfr_rf
  refine ww_go 4 (pc' := 4) (L' := [(0, .inr (.inr (.inl (some (0, 0))))), (1, .inl x), (2, .inr (.inr (.inl (some (73, 0)))))]) (st' := [.inl x, .inr (.inr (.inl (some (0, 0)))), .inl 0, .inr (.inr (.inl (some (73, 0))))]) (m' := m0) (o := none) rfl trivial ?_
  refine ww_callC (vs := [.inr (.inr (.inl (some (0, 0)))), .inl x]) (r := [.inl 0, .inr (.inr (.inl (some (73, 0))))]) (p := 0 < 1) rfl rfl rfl rfl (show 0 < 1 from by omega) (fun h => h.elim (fun z => Bool.noConfusion (show false = true from z)) (fun z => Bool.noConfusion (show true = false from z))) rfl (yt16 (c := c) hn (by omega) x hG (by omega)) (fun vq nq m1 hq => ?_) (fun kq nq m1 hq => ?_)
  · obtain ⟨hGm1, hEm1, hq⟩ := hq
    rcases hq with ⟨r3, hv, rfl, hr2⟩ | ⟨q9, hv, _⟩
    · obtain rfl := Sum.inl.inj hv
      have hFm1 : zfr (fun k i j => (26 ≤ k ∧ k ≤ 26 ∧ i < 8 ∧ j = 8) ∨ (k = 1 ∧ 157 ≤ i ∧ i < 171 ∧ j = 1) ∨ (k = 2 ∧ 157 ≤ i ∧ i < 171) ∨ (26 ≤ k ∧ k ≤ 32 ∧ 8 ≤ i ∧ i < 10) ∨ (k = 1 ∧ i = 2 ∧ j = 1) ∨ (k = 2 ∧ i = 2) ∨ (k = 16) ∨ (k = 17) ∨ (k = 18) ∨ (k = 73)) m0 m1 := zfr_tr hF hEm1 (fun k i j z => Or.elim z (fun z => Or.inl z) (fun z => Or.elim z (fun z => Or.inr (Or.inl z)) (fun z => Or.elim z (fun z => Or.inr (Or.inr (Or.inl z))) (fun z => Or.elim z (fun z => Or.inr (Or.inr (Or.inr (Or.inl z)))) (fun z => Or.elim z (fun z => Or.inr (Or.inr (Or.inr (Or.inr (Or.inl z))))) (fun z => Or.elim z (fun z => Or.inr (Or.inr (Or.inr (Or.inr (Or.inr (Or.inl z)))))) (fun z => Or.elim z (fun z => Or.inr (Or.inr (Or.inr (Or.inr (Or.inr (Or.inr (Or.inl z))))))) (fun z => Or.elim z (fun z => Or.inr (Or.inr (Or.inr (Or.inr (Or.inr (Or.inr (Or.inr (Or.inl z)))))))) (fun z => Or.inr (Or.inr (Or.inr (Or.inr (Or.inr (Or.inr (Or.inr (Or.inr (Or.inl z)))))))))))))))))
      show wW (zK sc) zM170 7 [(0, .inr (.inr (.inl (some (0, 0))))), (1, .inl x), (2, .inr (.inr (.inl (some (73, 0)))))] [.inl r3, .inl 0, .inr (.inr (.inl (some (73, 0))))] _ _ _
      refine ww_go 2 (pc' := 9) (L' := [(0, .inr (.inr (.inl (some (0, 0))))), (1, .inl x), (2, .inr (.inr (.inl (some (73, 0)))))]) (st' := []) (m' := wuL m1 73 0 0 (wi2l r3)) (o := some ((0 < 1 ∧ 0 ≤ (0 : Int) ∧ (0 : Int) < ((1 : Nat) : Int)))) rfl (show (0 < 1 ∧ 0 ≤ (0 : Int) ∧ (0 : Int) < ((1 : Nat) : Int)) from by omega) ?_
      obtain ⟨m4, hm4⟩ : ∃ zq9 : wm, zq9 = wuL m1 73 0 0 (wi2l r3) := ⟨_, rfl⟩
      rw [← hm4]
      have hGm4 : zB (c + 1) m4 := by rw [hm4]; exact zB_wL hGm1
      have hFm4 : zfr (fun k i j => (26 ≤ k ∧ k ≤ 26 ∧ i < 8 ∧ j = 8) ∨ (k = 1 ∧ 157 ≤ i ∧ i < 171 ∧ j = 1) ∨ (k = 2 ∧ 157 ≤ i ∧ i < 171) ∨ (26 ≤ k ∧ k ≤ 32 ∧ 8 ≤ i ∧ i < 10) ∨ (k = 1 ∧ i = 2 ∧ j = 1) ∨ (k = 2 ∧ i = 2) ∨ (k = 16) ∨ (k = 17) ∨ (k = 18) ∨ (k = 73)) m0 m4 := by rw [hm4]; exact zfr_wL hFm1 (show (26 ≤ 73 ∧ 73 ≤ 26 ∧ 0 < 8 ∧ 0 = 8) ∨ (73 = 1 ∧ 157 ≤ 0 ∧ 0 < 171 ∧ 0 = 1) ∨ (73 = 2 ∧ 157 ≤ 0 ∧ 0 < 171) ∨ (26 ≤ 73 ∧ 73 ≤ 32 ∧ 8 ≤ 0 ∧ 0 < 10) ∨ (73 = 1 ∧ 0 = 2 ∧ 0 = 1) ∨ (73 = 2 ∧ 0 = 2) ∨ (73 = 16) ∨ (73 = 17) ∨ (73 = 18) ∨ (73 = 73) from Or.inr (Or.inr (Or.inr (Or.inr (Or.inr (Or.inr (Or.inr (Or.inr (Or.inr (rfl))))))))))
      have ho5 : m4.2.1 73 0 0 = wi2l r3 := by rw [hm4]; exact wuL_self
      refine ww_go 2 (pc' := 16) (L' := [(0, .inr (.inr (.inl (some (0, 0))))), (1, .inl x), (2, .inr (.inr (.inl (some (73, 0)))))]) (st' := [.inl 0]) (m' := m4) (o := none) rfl trivial ?_
      exact ww_rI rfl rfl ⟨_, rfl, znn_rf, zB_mono hGm4 (by omega), hFm4, by trivial⟩
    · cases hv
  · obtain ⟨hGm1, hEm1, hq⟩ := hq
    rcases hq with ⟨_, hv, _⟩ | ⟨q9, hv, rfl, hr2⟩
    · cases hv
    · obtain rfl := Sum.inr.inj hv
      have hFm1 : zfr (fun k i j => (26 ≤ k ∧ k ≤ 26 ∧ i < 8 ∧ j = 8) ∨ (k = 1 ∧ 157 ≤ i ∧ i < 171 ∧ j = 1) ∨ (k = 2 ∧ 157 ≤ i ∧ i < 171) ∨ (26 ≤ k ∧ k ≤ 32 ∧ 8 ≤ i ∧ i < 10) ∨ (k = 1 ∧ i = 2 ∧ j = 1) ∨ (k = 2 ∧ i = 2) ∨ (k = 16) ∨ (k = 17) ∨ (k = 18) ∨ (k = 73)) m0 m1 := zfr_tr hF hEm1 (fun k i j z => Or.elim z (fun z => Or.inl z) (fun z => Or.elim z (fun z => Or.inr (Or.inl z)) (fun z => Or.elim z (fun z => Or.inr (Or.inr (Or.inl z))) (fun z => Or.elim z (fun z => Or.inr (Or.inr (Or.inr (Or.inl z)))) (fun z => Or.elim z (fun z => Or.inr (Or.inr (Or.inr (Or.inr (Or.inl z))))) (fun z => Or.elim z (fun z => Or.inr (Or.inr (Or.inr (Or.inr (Or.inr (Or.inl z)))))) (fun z => Or.elim z (fun z => Or.inr (Or.inr (Or.inr (Or.inr (Or.inr (Or.inr (Or.inl z))))))) (fun z => Or.elim z (fun z => Or.inr (Or.inr (Or.inr (Or.inr (Or.inr (Or.inr (Or.inr (Or.inl z)))))))) (fun z => Or.inr (Or.inr (Or.inr (Or.inr (Or.inr (Or.inr (Or.inr (Or.inr (Or.inl z)))))))))))))))))
      rcases (show kq = 0 from by omega) with rfl
      · refine ⟨12, 13, [(0, .inr (.inr (.inl (some (0, 0))))), (1, .inl x), (2, .inr (.inr (.inl (some (73, 0)))))], rfl, rfl, ?_⟩
        refine ww_go 1 (pc' := 14) (L' := [(0, .inr (.inr (.inl (some (0, 0))))), (1, .inl x), (2, .inr (.inr (.inl (some (73, 0)))))]) (st' := [.inl 1]) (m' := m1) (o := none) rfl trivial ?_
        exact ww_rI rfl rfl ⟨_, rfl, znn_th, zB_mono hGm1 (by omega), hFm1, by trivial⟩
set_option maxRecDepth 8000 in
/-- the law's released -/
theorem zs171 {sc : xSc} {n : Nat × Nat} {m0 : wm} {c : Int} (hn : n.1 < 2300) (hc : 0 ≤ c ∧ c ≤ 960000) (x : Int) (hG : zB c m0) (h0 : -2147483648 ≤ x ∧ x ≤ 2147483647) : wX (zK sc) 171 [.inr (.inr (.inl (some (0, 0)))), .inl x, .inr (.inr (.inl (some (73, 0))))] n m0 (wr (fun vv n1 m1 => ∃ r : Int, vv = some (.inl r) ∧ znn n n1 ∧ zB c m1 ∧ zfr (fun k i j => (k = 73)) m0 m1 ∧ (True))) := by
  refine wX_of (N := zM171) rfl (Nat.le_of_ble_eq_true rfl) ?_
  show wW (zK sc) zM171 0 [(0, .inr (.inr (.inl (some (0, 0))))), (1, .inl x), (2, .inr (.inr (.inl (some (73, 0)))))] [] n m0 _
  have hF : zfr (fun k i j => (k = 73)) m0 m0 := zfr_rf
  refine ww_go 4 (pc' := 4) (L' := [(0, .inr (.inr (.inl (some (0, 0))))), (1, .inl x), (2, .inr (.inr (.inl (some (73, 0)))))]) (st' := [.inl x, .inr (.inr (.inl (some (0, 0)))), .inl 0, .inr (.inr (.inl (some (73, 0))))]) (m' := m0) (o := none) rfl trivial ?_
  refine ww_callC (vs := [.inr (.inr (.inl (some (0, 0)))), .inl x]) (r := [.inl 0, .inr (.inr (.inl (some (73, 0))))]) (p := 0 < 1) rfl rfl rfl rfl (show 0 < 1 from by omega) (fun h => h.elim (fun z => Bool.noConfusion (show false = true from z)) (fun z => Bool.noConfusion (show true = false from z))) rfl (zs17 (c := c) hn (by omega) x hG (by omega)) (fun vq nq m1 hq => ?_) (fun kq nq m1 hq => ?_)
  · obtain ⟨hGm1, hEm1, hq⟩ := hq
    rcases hq with ⟨r3, hv, rfl, hr2⟩ | ⟨q9, hv, _⟩
    · obtain rfl := Sum.inl.inj hv
      have hFm1 : zfr (fun k i j => (k = 73)) m0 m1 := zfr_tr hF hEm1 (fun k i j z => False.elim z)
      show wW (zK sc) zM171 7 [(0, .inr (.inr (.inl (some (0, 0))))), (1, .inl x), (2, .inr (.inr (.inl (some (73, 0)))))] [.inl r3, .inl 0, .inr (.inr (.inl (some (73, 0))))] _ _ _
      refine ww_go 2 (pc' := 9) (L' := [(0, .inr (.inr (.inl (some (0, 0))))), (1, .inl x), (2, .inr (.inr (.inl (some (73, 0)))))]) (st' := []) (m' := wuL m1 73 0 0 (wi2l r3)) (o := some ((0 < 1 ∧ 0 ≤ (0 : Int) ∧ (0 : Int) < ((1 : Nat) : Int)))) rfl (show (0 < 1 ∧ 0 ≤ (0 : Int) ∧ (0 : Int) < ((1 : Nat) : Int)) from by omega) ?_
      obtain ⟨m4, hm4⟩ : ∃ zq9 : wm, zq9 = wuL m1 73 0 0 (wi2l r3) := ⟨_, rfl⟩
      rw [← hm4]
      have hGm4 : zB c m4 := by rw [hm4]; exact zB_wL hGm1
      have hFm4 : zfr (fun k i j => (k = 73)) m0 m4 := by rw [hm4]; exact zfr_wL hFm1 (show (73 = 73) from rfl)
      have ho5 : m4.2.1 73 0 0 = wi2l r3 := by rw [hm4]; exact wuL_self
      refine ww_go 2 (pc' := 16) (L' := [(0, .inr (.inr (.inl (some (0, 0))))), (1, .inl x), (2, .inr (.inr (.inl (some (73, 0)))))]) (st' := [.inl 0]) (m' := m4) (o := none) rfl trivial ?_
      exact ww_rI rfl rfl ⟨_, rfl, znn_rf, zB_mono hGm4 (by omega), hFm4, by trivial⟩
    · cases hv
  · obtain ⟨hGm1, hEm1, hq⟩ := hq
    rcases hq with ⟨_, hv, _⟩ | ⟨q9, hv, rfl, hr2⟩
    · cases hv
    · obtain rfl := Sum.inr.inj hv
      have hFm1 : zfr (fun k i j => (k = 73)) m0 m1 := zfr_tr hF hEm1 (fun k i j z => False.elim z)
      rcases (show kq = 0 from by omega) with rfl
      · refine ⟨12, 13, [(0, .inr (.inr (.inl (some (0, 0))))), (1, .inl x), (2, .inr (.inr (.inl (some (73, 0)))))], rfl, rfl, ?_⟩
        refine ww_go 1 (pc' := 14) (L' := [(0, .inr (.inr (.inl (some (0, 0))))), (1, .inl x), (2, .inr (.inr (.inl (some (73, 0)))))]) (st' := [.inl 1]) (m' := m1) (o := none) rfl trivial ?_
        exact ww_rI rfl rfl ⟨_, rfl, znn_th, zB_mono hGm1 (by omega), hFm1, by trivial⟩
set_option maxRecDepth 8000 in
/-- the law's file -/
theorem zs164 {sc : xSc} {n : Nat × Nat} {m0 : wm} {c : Int} (hn : n.1 < 2300) (hc : 0 ≤ c ∧ c ≤ 960000) (x : Int) (y : Int) (z : Int) (b : Int) (hG : zB c m0) (h0 : -2147483648 ≤ x ∧ x ≤ 2147483647 ∧ -2147483648 ≤ y ∧ y ≤ 2147483647 ∧ -2147483648 ≤ z ∧ z ≤ 2147483647 ∧ 0 ≤ b ∧ b ≤ 1) : wX (zK sc) 164 [.inr (.inr (.inl (some (0, 0)))), .inl x, .inl y, .inl z, .inl b, .inr (.inr (.inl (some (73, 0))))] n m0 (wr (fun vv n1 m1 => ∃ r : Int, vv = some (.inl r) ∧ znn n n1 ∧ zB c m1 ∧ zfr (fun k i j => (k = 73)) m0 m1 ∧ (True))) := by
  refine wX_of (N := zM164) rfl (Nat.le_of_ble_eq_true rfl) ?_
  show wW (zK sc) zM164 0 [(0, .inr (.inr (.inl (some (0, 0))))), (1, .inl x), (2, .inl y), (3, .inl z), (4, .inl b), (5, .inr (.inr (.inl (some (73, 0)))))] [] n m0 _
  have hF : zfr (fun k i j => (k = 73)) m0 m0 := zfr_rf
  refine ww_go 7 (pc' := 9) (L' := [(0, .inr (.inr (.inl (some (0, 0))))), (1, .inl x), (2, .inl y), (3, .inl z), (4, .inl b), (5, .inr (.inr (.inl (some (73, 0)))))]) (st' := [.inl b, .inl z, .inl y, .inl x, .inr (.inr (.inl (some (0, 0)))), .inl 0, .inr (.inr (.inl (some (73, 0))))]) (m' := m0) (o := none) rfl trivial ?_
  refine ww_callC (vs := [.inr (.inr (.inl (some (0, 0)))), .inl x, .inl y, .inl z, .inl b]) (r := [.inl 0, .inr (.inr (.inl (some (73, 0))))]) (p := 0 < 1) rfl rfl rfl rfl (show 0 < 1 from by omega) (fun h => h.elim (fun z => Bool.noConfusion (show false = true from z)) (fun z => Bool.noConfusion (show true = false from z))) rfl (zs8 (c := c) hn (by omega) x y z b hG (by omega)) (fun vq nq m1 hq => ?_) (fun kq nq m1 hq => ?_)
  · obtain ⟨hGm1, hEm1, hq⟩ := hq
    rcases hq with ⟨r3, hv, rfl, hr2⟩ | ⟨q9, hv, _⟩
    · obtain rfl := Sum.inl.inj hv
      have hFm1 : zfr (fun k i j => (k = 73)) m0 m1 := zfr_tr hF hEm1 (fun k i j z => False.elim z)
      show wW (zK sc) zM164 12 [(0, .inr (.inr (.inl (some (0, 0))))), (1, .inl x), (2, .inl y), (3, .inl z), (4, .inl b), (5, .inr (.inr (.inl (some (73, 0)))))] [.inl r3, .inl 0, .inr (.inr (.inl (some (73, 0))))] _ _ _
      refine ww_go 2 (pc' := 14) (L' := [(0, .inr (.inr (.inl (some (0, 0))))), (1, .inl x), (2, .inl y), (3, .inl z), (4, .inl b), (5, .inr (.inr (.inl (some (73, 0)))))]) (st' := []) (m' := wuL m1 73 0 0 (wi2l r3)) (o := some ((0 < 1 ∧ 0 ≤ (0 : Int) ∧ (0 : Int) < ((1 : Nat) : Int)))) rfl (show (0 < 1 ∧ 0 ≤ (0 : Int) ∧ (0 : Int) < ((1 : Nat) : Int)) from by omega) ?_
      obtain ⟨m4, hm4⟩ : ∃ zq9 : wm, zq9 = wuL m1 73 0 0 (wi2l r3) := ⟨_, rfl⟩
      rw [← hm4]
      have hGm4 : zB c m4 := by rw [hm4]; exact zB_wL hGm1
      have hFm4 : zfr (fun k i j => (k = 73)) m0 m4 := by rw [hm4]; exact zfr_wL hFm1 (show (73 = 73) from rfl)
      have ho5 : m4.2.1 73 0 0 = wi2l r3 := by rw [hm4]; exact wuL_self
      refine ww_go 2 (pc' := 26) (L' := [(0, .inr (.inr (.inl (some (0, 0))))), (1, .inl x), (2, .inl y), (3, .inl z), (4, .inl b), (5, .inr (.inr (.inl (some (73, 0)))))]) (st' := [.inl 0]) (m' := m4) (o := none) rfl trivial ?_
      exact ww_rI rfl rfl ⟨_, rfl, znn_rf, zB_mono hGm4 (by omega), hFm4, by trivial⟩
    · cases hv
  · obtain ⟨hGm1, hEm1, hq⟩ := hq
    rcases hq with ⟨_, hv, _⟩ | ⟨q9, hv, rfl, hr2⟩
    · cases hv
    · obtain rfl := Sum.inr.inj hv
      have hFm1 : zfr (fun k i j => (k = 73)) m0 m1 := zfr_tr hF hEm1 (fun k i j z => False.elim z)
      rcases (show kq = 0 ∨ kq = 2 from by omega) with rfl | rfl
      · refine ⟨17, 19, [(0, .inr (.inr (.inl (some (0, 0))))), (1, .inl x), (2, .inl y), (3, .inl z), (4, .inl b), (5, .inr (.inr (.inl (some (73, 0)))))], rfl, rfl, ?_⟩
        refine ww_go 1 (pc' := 20) (L' := [(0, .inr (.inr (.inl (some (0, 0))))), (1, .inl x), (2, .inl y), (3, .inl z), (4, .inl b), (5, .inr (.inr (.inl (some (73, 0)))))]) (st' := [.inl 1]) (m' := m1) (o := none) rfl trivial ?_
        exact ww_rI rfl rfl ⟨_, rfl, znn_th, zB_mono hGm1 (by omega), hFm1, by trivial⟩
      · refine ⟨21, 23, [(0, .inr (.inr (.inl (some (0, 0))))), (1, .inl x), (2, .inl y), (3, .inl z), (4, .inl b), (5, .inr (.inr (.inl (some (73, 0)))))], rfl, rfl, ?_⟩
        refine ww_go 1 (pc' := 24) (L' := [(0, .inr (.inr (.inl (some (0, 0))))), (1, .inl x), (2, .inl y), (3, .inl z), (4, .inl b), (5, .inr (.inr (.inl (some (73, 0)))))]) (st' := [.inl 2]) (m' := m1) (o := none) rfl trivial ?_
        exact ww_rI rfl rfl ⟨_, rfl, znn_th, zB_mono hGm1 (by omega), hFm1, by trivial⟩
set_option maxRecDepth 8000 in
/-- the law's journal -/
theorem zs167 {sc : xSc} {n : Nat × Nat} {m0 : wm} {c : Int} (hn : n.1 < 2300) (hc : 0 ≤ c ∧ c ≤ 960000) (x : Int) (y : Int) (hG : zB c m0) (h0 : -2147483648 ≤ x ∧ x ≤ 2147483647 ∧ -2147483648 ≤ y ∧ y ≤ 2147483647) : wX (zK sc) 167 [.inr (.inr (.inl (some (0, 0)))), .inl x, .inl y, .inr (.inr (.inl (some (73, 0))))] n m0 (wr (fun vv n1 m1 => ∃ r : Int, vv = some (.inl r) ∧ znn n n1 ∧ zB c m1 ∧ zfr (fun k i j => (k = 73)) m0 m1 ∧ (True))) := by
  refine wX_of (N := zM167) rfl (Nat.le_of_ble_eq_true rfl) ?_
  show wW (zK sc) zM167 0 [(0, .inr (.inr (.inl (some (0, 0))))), (1, .inl x), (2, .inl y), (3, .inr (.inr (.inl (some (73, 0)))))] [] n m0 _
  have hF : zfr (fun k i j => (k = 73)) m0 m0 := zfr_rf
  refine ww_go 5 (pc' := 5) (L' := [(0, .inr (.inr (.inl (some (0, 0))))), (1, .inl x), (2, .inl y), (3, .inr (.inr (.inl (some (73, 0)))))]) (st' := [.inl y, .inl x, .inr (.inr (.inl (some (0, 0)))), .inl 0, .inr (.inr (.inl (some (73, 0))))]) (m' := m0) (o := none) rfl trivial ?_
  refine ww_callC (vs := [.inr (.inr (.inl (some (0, 0)))), .inl x, .inl y]) (r := [.inl 0, .inr (.inr (.inl (some (73, 0))))]) (p := 0 < 1) rfl rfl rfl rfl (show 0 < 1 from by omega) (fun h => h.elim (fun z => Bool.noConfusion (show false = true from z)) (fun z => Bool.noConfusion (show true = false from z))) rfl (zs13 (c := c) hn (by omega) x y hG (by omega)) (fun vq nq m1 hq => ?_) (fun kq nq m1 hq => ?_)
  · obtain ⟨hGm1, hEm1, hq⟩ := hq
    rcases hq with ⟨r3, hv, rfl, hr2⟩ | ⟨q9, hv, _⟩
    · obtain rfl := Sum.inl.inj hv
      have hFm1 : zfr (fun k i j => (k = 73)) m0 m1 := zfr_tr hF hEm1 (fun k i j z => False.elim z)
      show wW (zK sc) zM167 8 [(0, .inr (.inr (.inl (some (0, 0))))), (1, .inl x), (2, .inl y), (3, .inr (.inr (.inl (some (73, 0)))))] [.inr (.inl r3), .inl 0, .inr (.inr (.inl (some (73, 0))))] _ _ _
      refine ww_go 1 (pc' := 9) (L' := [(0, .inr (.inr (.inl (some (0, 0))))), (1, .inl x), (2, .inl y), (3, .inr (.inr (.inl (some (73, 0)))))]) (st' := []) (m' := wuL m1 73 0 0 r3) (o := some ((0 < 1 ∧ 0 ≤ (0 : Int) ∧ (0 : Int) < ((1 : Nat) : Int)))) rfl (show (0 < 1 ∧ 0 ≤ (0 : Int) ∧ (0 : Int) < ((1 : Nat) : Int)) from by omega) ?_
      obtain ⟨m4, hm4⟩ : ∃ zq9 : wm, zq9 = wuL m1 73 0 0 r3 := ⟨_, rfl⟩
      rw [← hm4]
      have hGm4 : zB c m4 := by rw [hm4]; exact zB_wL hGm1
      have hFm4 : zfr (fun k i j => (k = 73)) m0 m4 := by rw [hm4]; exact zfr_wL hFm1 (show (73 = 73) from rfl)
      have ho5 : m4.2.1 73 0 0 = r3 := by rw [hm4]; exact wuL_self
      refine ww_go 2 (pc' := 21) (L' := [(0, .inr (.inr (.inl (some (0, 0))))), (1, .inl x), (2, .inl y), (3, .inr (.inr (.inl (some (73, 0)))))]) (st' := [.inl 0]) (m' := m4) (o := none) rfl trivial ?_
      exact ww_rI rfl rfl ⟨_, rfl, znn_rf, zB_mono hGm4 (by omega), hFm4, by trivial⟩
    · cases hv
  · obtain ⟨hGm1, hEm1, hq⟩ := hq
    rcases hq with ⟨_, hv, _⟩ | ⟨q9, hv, rfl, hr2⟩
    · cases hv
    · obtain rfl := Sum.inr.inj hv
      have hFm1 : zfr (fun k i j => (k = 73)) m0 m1 := zfr_tr hF hEm1 (fun k i j z => False.elim z)
      rcases (show kq = 0 ∨ kq = 2 from by omega) with rfl | rfl
      · refine ⟨12, 14, [(0, .inr (.inr (.inl (some (0, 0))))), (1, .inl x), (2, .inl y), (3, .inr (.inr (.inl (some (73, 0)))))], rfl, rfl, ?_⟩
        refine ww_go 1 (pc' := 15) (L' := [(0, .inr (.inr (.inl (some (0, 0))))), (1, .inl x), (2, .inl y), (3, .inr (.inr (.inl (some (73, 0)))))]) (st' := [.inl 1]) (m' := m1) (o := none) rfl trivial ?_
        exact ww_rI rfl rfl ⟨_, rfl, znn_th, zB_mono hGm1 (by omega), hFm1, by trivial⟩
      · refine ⟨16, 18, [(0, .inr (.inr (.inl (some (0, 0))))), (1, .inl x), (2, .inl y), (3, .inr (.inr (.inl (some (73, 0)))))], rfl, rfl, ?_⟩
        refine ww_go 1 (pc' := 19) (L' := [(0, .inr (.inr (.inl (some (0, 0))))), (1, .inl x), (2, .inl y), (3, .inr (.inr (.inl (some (73, 0)))))]) (st' := [.inl 2]) (m' := m1) (o := none) rfl trivial ?_
        exact ww_rI rfl rfl ⟨_, rfl, znn_th, zB_mono hGm1 (by omega), hFm1, by trivial⟩
set_option maxRecDepth 8000 in
/-- the law's touch -/
theorem zs176 {sc : xSc} {n : Nat × Nat} {m0 : wm} {c : Int} (hn : n.1 < 2300) (hc : 0 ≤ c ∧ c ≤ 960000) (x : Int) (y : Int) (z : Int) (hG : zB c m0) (h0 : -2147483648 ≤ x ∧ x ≤ 2147483647 ∧ -2147483648 ≤ y ∧ y ≤ 2147483647 ∧ -2147483648 ≤ z ∧ z ≤ 2147483647) : wX (zK sc) 176 [.inr (.inr (.inl (some (0, 0)))), .inl x, .inl y, .inl z] n m0 (wr (fun vv n1 m1 => ∃ r : Int, vv = some (.inl r) ∧ znn n n1 ∧ zB c m1 ∧ zfr (fun k i j => (k = 17)) m0 m1 ∧ (True))) := by
  refine wX_of (N := zM176) rfl (Nat.le_of_ble_eq_true rfl) ?_
  show wW (zK sc) zM176 0 [(0, .inr (.inr (.inl (some (0, 0))))), (1, .inl x), (2, .inl y), (3, .inl z)] [] n m0 _
  have hF : zfr (fun k i j => (k = 17)) m0 m0 := zfr_rf
  refine ww_go 4 (pc' := 4) (L' := [(0, .inr (.inr (.inl (some (0, 0))))), (1, .inl x), (2, .inl y), (3, .inl z)]) (st' := [.inl z, .inl y, .inl x, .inr (.inr (.inl (some (0, 0))))]) (m' := m0) (o := none) rfl trivial ?_
  refine ww_callC (vs := [.inr (.inr (.inl (some (0, 0)))), .inl x, .inl y, .inl z]) (r := []) (p := 0 < 1) rfl rfl rfl rfl (show 0 < 1 from by omega) (fun h => h.elim (fun z => Bool.noConfusion (show false = true from z)) (fun z => Bool.noConfusion (show true = false from z))) rfl (zs23 (c := c) hn (by omega) x y z hG (by omega)) (fun vq nq m1 hq => ?_) (fun kq nq m1 hq => ?_)
  · obtain ⟨hGm1, hEm1, hq⟩ := hq
    rcases hq with ⟨hv, rfl, hr2⟩ | ⟨q9, hv, _⟩
    · obtain rfl := Sum.inl.inj hv
      have hFm1 : zfr (fun k i j => (k = 17)) m0 m1 := zfr_tr hF hEm1 (fun k i j z => z)
      show wW (zK sc) zM176 7 [(0, .inr (.inr (.inl (some (0, 0))))), (1, .inl x), (2, .inl y), (3, .inl z)] [] _ _ _
      refine ww_go 2 (pc' := 19) (L' := [(0, .inr (.inr (.inl (some (0, 0))))), (1, .inl x), (2, .inl y), (3, .inl z)]) (st' := [.inl 0]) (m' := m1) (o := none) rfl trivial ?_
      exact ww_rI rfl rfl ⟨_, rfl, znn_rf, zB_mono hGm1 (by omega), hFm1, by trivial⟩
    · cases hv
  · obtain ⟨hGm1, hEm1, hq⟩ := hq
    rcases hq with ⟨hv, _⟩ | ⟨q9, hv, rfl, hr2⟩
    · cases hv
    · obtain rfl := Sum.inr.inj hv
      have hFm1 : zfr (fun k i j => (k = 17)) m0 m1 := zfr_tr hF hEm1 (fun k i j z => z)
      rcases (show kq = 0 ∨ kq = 2 from by omega) with rfl | rfl
      · refine ⟨10, 12, [(0, .inr (.inr (.inl (some (0, 0))))), (1, .inl x), (2, .inl y), (3, .inl z)], rfl, rfl, ?_⟩
        refine ww_go 1 (pc' := 13) (L' := [(0, .inr (.inr (.inl (some (0, 0))))), (1, .inl x), (2, .inl y), (3, .inl z)]) (st' := [.inl 1]) (m' := m1) (o := none) rfl trivial ?_
        exact ww_rI rfl rfl ⟨_, rfl, znn_th, zB_mono hGm1 (by omega), hFm1, by trivial⟩
      · refine ⟨14, 16, [(0, .inr (.inr (.inl (some (0, 0))))), (1, .inl x), (2, .inl y), (3, .inl z)], rfl, rfl, ?_⟩
        refine ww_go 1 (pc' := 17) (L' := [(0, .inr (.inr (.inl (some (0, 0))))), (1, .inl x), (2, .inl y), (3, .inl z)]) (st' := [.inl 2]) (m' := m1) (o := none) rfl trivial ?_
        exact ww_rI rfl rfl ⟨_, rfl, znn_th, zB_mono hGm1 (by omega), hFm1, by trivial⟩
set_option maxRecDepth 8000 in
/-- the law's count -/
theorem zs162 {sc : xSc} {n : Nat × Nat} {m0 : wm} {c : Int} (hn : n.1 < 2300) (hc : 0 ≤ c ∧ c ≤ 960000) (x : Int) (hG : zB c m0) (h0 : -2147483648 ≤ x ∧ x ≤ 2147483647) : wX (zK sc) 162 [.inr (.inr (.inl (some (0, 0)))), .inl x, .inr (.inr (.inl (some (73, 0))))] n m0 (wr (fun vv n1 m1 => ∃ r : Int, vv = some (.inl r) ∧ znn n n1 ∧ zB c m1 ∧ zfr (fun k i j => (k = 73)) m0 m1 ∧ ((r = 0 ∧ ∃ y : Int, m1.2.1 73 0 0 = wi2l y ∧ ((0 ≤ x ∧ x ≤ 2) ∧ (x = 0 → y = m0.1 19 0 6) ∧ (x = 1 → y = m0.1 22 0 3) ∧ (x = 2 → y = m0.1 0 0 7))) ∨ (r = 1 ∧ (¬ (0 ≤ x ∧ x ≤ 2)))))) := by
  refine wX_of (N := zM162) rfl (Nat.le_of_ble_eq_true rfl) ?_
  show wW (zK sc) zM162 0 [(0, .inr (.inr (.inl (some (0, 0))))), (1, .inl x), (2, .inr (.inr (.inl (some (73, 0)))))] [] n m0 _
  have hF : zfr (fun k i j => (k = 73)) m0 m0 := zfr_rf
  refine ww_go 4 (pc' := 4) (L' := [(0, .inr (.inr (.inl (some (0, 0))))), (1, .inl x), (2, .inr (.inr (.inl (some (73, 0)))))]) (st' := [.inl x, .inr (.inr (.inl (some (0, 0)))), .inl 0, .inr (.inr (.inl (some (73, 0))))]) (m' := m0) (o := none) rfl trivial ?_
  refine ww_callC (vs := [.inr (.inr (.inl (some (0, 0)))), .inl x]) (r := [.inl 0, .inr (.inr (.inl (some (73, 0))))]) (p := 0 < 1) rfl rfl rfl rfl (show 0 < 1 from by omega) (fun h => h.elim (fun z => Bool.noConfusion (show false = true from z)) (fun z => Bool.noConfusion (show true = false from z))) rfl (yt6 (c := c) hn (by omega) x hG (by omega)) (fun vq nq m1 hq => ?_) (fun kq nq m1 hq => ?_)
  · obtain ⟨hGm1, hEm1, hq⟩ := hq
    rcases hq with ⟨r3, hv, rfl, hr2⟩ | ⟨q9, hv, _⟩
    · obtain rfl := Sum.inl.inj hv
      have hFm1 : zfr (fun k i j => (k = 73)) m0 m1 := zfr_tr hF hEm1 (fun k i j z => False.elim z)
      show wW (zK sc) zM162 7 [(0, .inr (.inr (.inl (some (0, 0))))), (1, .inl x), (2, .inr (.inr (.inl (some (73, 0)))))] [.inl r3, .inl 0, .inr (.inr (.inl (some (73, 0))))] _ _ _
      refine ww_go 2 (pc' := 9) (L' := [(0, .inr (.inr (.inl (some (0, 0))))), (1, .inl x), (2, .inr (.inr (.inl (some (73, 0)))))]) (st' := []) (m' := wuL m1 73 0 0 (wi2l r3)) (o := some ((0 < 1 ∧ 0 ≤ (0 : Int) ∧ (0 : Int) < ((1 : Nat) : Int)))) rfl (show (0 < 1 ∧ 0 ≤ (0 : Int) ∧ (0 : Int) < ((1 : Nat) : Int)) from by omega) ?_
      obtain ⟨m4, hm4⟩ : ∃ zq9 : wm, zq9 = wuL m1 73 0 0 (wi2l r3) := ⟨_, rfl⟩
      rw [← hm4]
      have hGm4 : zB c m4 := by rw [hm4]; exact zB_wL hGm1
      have hFm4 : zfr (fun k i j => (k = 73)) m0 m4 := by rw [hm4]; exact zfr_wL hFm1 (show (73 = 73) from rfl)
      have ho5 : m4.2.1 73 0 0 = wi2l r3 := by rw [hm4]; exact wuL_self
      refine ww_go 2 (pc' := 16) (L' := [(0, .inr (.inr (.inl (some (0, 0))))), (1, .inl x), (2, .inr (.inr (.inl (some (73, 0)))))]) (st' := [.inl 0]) (m' := m4) (o := none) rfl trivial ?_
      exact ww_rI rfl rfl ⟨_, rfl, znn_rf, zB_mono hGm4 (by omega), hFm4, Or.inl (⟨rfl, _, ho5, by omega⟩)⟩
    · cases hv
  · obtain ⟨hGm1, hEm1, hq⟩ := hq
    rcases hq with ⟨_, hv, _⟩ | ⟨q9, hv, rfl, hr2⟩
    · cases hv
    · obtain rfl := Sum.inr.inj hv
      have hFm1 : zfr (fun k i j => (k = 73)) m0 m1 := zfr_tr hF hEm1 (fun k i j z => False.elim z)
      rcases (show kq = 0 from by omega) with rfl
      · refine ⟨12, 13, [(0, .inr (.inr (.inl (some (0, 0))))), (1, .inl x), (2, .inr (.inr (.inl (some (73, 0)))))], rfl, rfl, ?_⟩
        refine ww_go 1 (pc' := 14) (L' := [(0, .inr (.inr (.inl (some (0, 0))))), (1, .inl x), (2, .inr (.inr (.inl (some (73, 0)))))]) (st' := [.inl 1]) (m' := m1) (o := none) rfl trivial ?_
        exact ww_rI rfl rfl ⟨_, rfl, znn_th, zB_mono hGm1 (by omega), hFm1, Or.inr (⟨rfl, by omega⟩)⟩
