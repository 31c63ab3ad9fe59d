set_option maxRecDepth 8000 in
theorem zs195_l2 {sc : xSc} {n : Nat × Nat} {m0 : wm} {c : Int} (hc : 0 ≤ c ∧ c ≤ 1000000) (f : Int) (hG : zB c m0) (hR : zRI m0) (h0 : 0 ≤ f ∧ f ≤ 7) : ∀ (d : Nat), ∀ (k : Int) (m : wm), (7 - k).toNat = d → zB c m → zfr (fun k i j => (k = 58) ∨ (k = 59) ∨ (k = 60) ∨ (k = 61) ∨ (k = 34 ∧ j = 30) ∨ (k = 54) ∨ (k = 55) ∨ (k = 57) ∨ (k = 50) ∨ (k = 51) ∨ (k = 52) ∨ (k = 53)) m0 m → (0 ≤ k ∧ k ≤ 7) → (zEm m0 m f k) → (m.1 51 0 = m0.1 51 0 ∧ m.1 52 0 = m0.1 52 0 ∧ m.1 53 0 = m0.1 53 0 ∧ m.1 56 0 = m0.1 56 0) →  wW (zK sc) zM195 2 [(0, .inr (.inr (.inl (some (34, 0))))), (1, .inl f), (2, .inl k)] [] n m (wr (fun vv n1 m1 => vv = none ∧ n = n1 ∧ zB c m1 ∧ zfr (fun k i j => (k = 58) ∨ (k = 59) ∨ (k = 60) ∨ (k = 61) ∨ (k = 34 ∧ j = 30) ∨ (k = 54) ∨ (k = 55) ∨ (k = 57) ∨ (k = 50) ∨ (k = 51) ∨ (k = 52) ∨ (k = 53)) m0 m1 ∧ (zRI m1 ∧ (True)))) := by
  intro d
  induction d using Nat.strongRecOn with
  | ind d ih =>
    intro k m hd hGm hFm hi he hs
    refine ww_go 2 (pc' := 5) (L' := [(0, .inr (.inr (.inl (some (34, 0))))), (1, .inl f), (2, .inl k)]) (st' := [.inl 7, .inl k]) (m' := m) (o := none) rfl trivial ?_
    refine ww_ic (t := 24) rfl rfl (by omega) (fun (h1 : 7 ≤ k) => ?_) (fun (h1 : ¬ (7 ≤ k)) => ?_)
    · show wW (zK sc) zM195 24 [(0, .inr (.inr (.inl (some (34, 0))))), (1, .inl f), (2, .inl k)] [] _ _ _
      refine ww_go 5 (pc' := 31) (L' := [(0, .inr (.inr (.inl (some (34, 0))))), (1, .inl f), (2, .inl k)]) (st' := []) (m' := wuI m 50 0 f.toNat 0) (o := some ((0 < 1) ∧ (0 < 1 ∧ 0 ≤ f ∧ f < ((8 : Nat) : Int)))) rfl (show (0 < 1) ∧ (0 < 1 ∧ 0 ≤ f ∧ f < ((8 : Nat) : Int)) from by omega) ?_
      obtain ⟨m2, hm2⟩ : ∃ zq9 : wm, zq9 = wuI m 50 0 f.toNat 0 := ⟨_, rfl⟩
      rw [← hm2]
      have hGm2 : zB c m2 := by rw [hm2]; exact zB_wI rfl (show 0 ≤ (0 : Int) ∧ (0 : Int) ≤ 65535 from by omega) hGm
      have hFm2 : zfr (fun k i j => (k = 58) ∨ (k = 59) ∨ (k = 60) ∨ (k = 61) ∨ (k = 34 ∧ j = 30) ∨ (k = 54) ∨ (k = 55) ∨ (k = 57) ∨ (k = 50) ∨ (k = 51) ∨ (k = 52) ∨ (k = 53)) m0 m2 := by rw [hm2]; exact zfr_wI hFm (show (50 = 58) ∨ (50 = 59) ∨ (50 = 60) ∨ (50 = 61) ∨ (50 = 34 ∧ f.toNat = 30) ∨ (50 = 54) ∨ (50 = 55) ∨ (50 = 57) ∨ (50 = 50) ∨ (50 = 51) ∨ (50 = 52) ∨ (50 = 53) from Or.inr (Or.inr (Or.inr (Or.inr (Or.inr (Or.inr (Or.inr (Or.inr (Or.inl rfl)))))))))
      have s3 : m2.1 50 0 f.toNat = (0 : Int) := by rw [hm2]; exact wuI_self
      refine ww_go 5 (pc' := 38) (L' := [(0, .inr (.inr (.inl (some (34, 0))))), (1, .inl f), (2, .inl k)]) (st' := []) (m' := wuI m2 51 0 f.toNat 0) (o := some ((0 < 1) ∧ (0 < 1 ∧ 0 ≤ f ∧ f < ((8 : Nat) : Int) ∧ 0 ≤ (0 : Int) ∧ (0 : Int) ≤ 1))) rfl (show (0 < 1) ∧ (0 < 1 ∧ 0 ≤ f ∧ f < ((8 : Nat) : Int) ∧ 0 ≤ (0 : Int) ∧ (0 : Int) ≤ 1) from by omega) ?_
      obtain ⟨m4, hm4⟩ : ∃ zq9 : wm, zq9 = wuI m2 51 0 f.toNat 0 := ⟨_, rfl⟩
      rw [← hm4]
      have hGm4 : zB c m4 := by rw [hm4]; exact zB_wI rfl (show 0 ≤ (0 : Int) ∧ (0 : Int) ≤ 1 from by omega) hGm2
      have hFm4 : zfr (fun k i j => (k = 58) ∨ (k = 59) ∨ (k = 60) ∨ (k = 61) ∨ (k = 34 ∧ j = 30) ∨ (k = 54) ∨ (k = 55) ∨ (k = 57) ∨ (k = 50) ∨ (k = 51) ∨ (k = 52) ∨ (k = 53)) m0 m4 := by rw [hm4]; exact zfr_wI hFm2 (show (51 = 58) ∨ (51 = 59) ∨ (51 = 60) ∨ (51 = 61) ∨ (51 = 34 ∧ f.toNat = 30) ∨ (51 = 54) ∨ (51 = 55) ∨ (51 = 57) ∨ (51 = 50) ∨ (51 = 51) ∨ (51 = 52) ∨ (51 = 53) from Or.inr (Or.inr (Or.inr (Or.inr (Or.inr (Or.inr (Or.inr (Or.inr (Or.inr (Or.inl rfl))))))))))
      have s5 : m4.1 51 0 f.toNat = (0 : Int) := by rw [hm4]; exact wuI_self
      refine ww_go 5 (pc' := 45) (L' := [(0, .inr (.inr (.inl (some (34, 0))))), (1, .inl f), (2, .inl k)]) (st' := []) (m' := wuI m4 52 0 f.toNat 0) (o := some ((0 < 1) ∧ (0 < 1 ∧ 0 ≤ f ∧ f < ((8 : Nat) : Int)))) rfl (show (0 < 1) ∧ (0 < 1 ∧ 0 ≤ f ∧ f < ((8 : Nat) : Int)) from by omega) ?_
      obtain ⟨m6, hm6⟩ : ∃ zq9 : wm, zq9 = wuI m4 52 0 f.toNat 0 := ⟨_, rfl⟩
      rw [← hm6]
      have hGm6 : zB c m6 := by rw [hm6]; exact zB_wI rfl (show 0 ≤ (0 : Int) ∧ (0 : Int) ≤ 6 from by omega) hGm4
      have hFm6 : zfr (fun k i j => (k = 58) ∨ (k = 59) ∨ (k = 60) ∨ (k = 61) ∨ (k = 34 ∧ j = 30) ∨ (k = 54) ∨ (k = 55) ∨ (k = 57) ∨ (k = 50) ∨ (k = 51) ∨ (k = 52) ∨ (k = 53)) m0 m6 := by rw [hm6]; exact zfr_wI hFm4 (show (52 = 58) ∨ (52 = 59) ∨ (52 = 60) ∨ (52 = 61) ∨ (52 = 34 ∧ f.toNat = 30) ∨ (52 = 54) ∨ (52 = 55) ∨ (52 = 57) ∨ (52 = 50) ∨ (52 = 51) ∨ (52 = 52) ∨ (52 = 53) from Or.inr (Or.inr (Or.inr (Or.inr (Or.inr (Or.inr (Or.inr (Or.inr (Or.inr (Or.inr (Or.inl rfl)))))))))))
      have s7 : m6.1 52 0 f.toNat = (0 : Int) := by rw [hm6]; exact wuI_self
      refine ww_go 5 (pc' := 52) (L' := [(0, .inr (.inr (.inl (some (34, 0))))), (1, .inl f), (2, .inl k)]) (st' := []) (m' := wuI m6 53 0 f.toNat 0) (o := some ((0 < 1) ∧ (0 < 1 ∧ 0 ≤ f ∧ f < ((8 : Nat) : Int)))) rfl (show (0 < 1) ∧ (0 < 1 ∧ 0 ≤ f ∧ f < ((8 : Nat) : Int)) from by omega) ?_
      obtain ⟨m8, hm8⟩ : ∃ zq9 : wm, zq9 = wuI m6 53 0 f.toNat 0 := ⟨_, rfl⟩
      rw [← hm8]
      have hGm8 : zB c m8 := by rw [hm8]; exact zB_wI rfl (show 0 ≤ (0 : Int) ∧ (0 : Int) ≤ 2 from by omega) hGm6
      have hFm8 : zfr (fun k i j => (k = 58) ∨ (k = 59) ∨ (k = 60) ∨ (k = 61) ∨ (k = 34 ∧ j = 30) ∨ (k = 54) ∨ (k = 55) ∨ (k = 57) ∨ (k = 50) ∨ (k = 51) ∨ (k = 52) ∨ (k = 53)) m0 m8 := by rw [hm8]; exact zfr_wI hFm6 (show (53 = 58) ∨ (53 = 59) ∨ (53 = 60) ∨ (53 = 61) ∨ (53 = 34 ∧ f.toNat = 30) ∨ (53 = 54) ∨ (53 = 55) ∨ (53 = 57) ∨ (53 = 50) ∨ (53 = 51) ∨ (53 = 52) ∨ (53 = 53) from Or.inr (Or.inr (Or.inr (Or.inr (Or.inr (Or.inr (Or.inr (Or.inr (Or.inr (Or.inr (Or.inr (rfl))))))))))))
      have s9 : m8.1 53 0 f.toNat = (0 : Int) := by rw [hm8]; exact wuI_self
      have hRm8 : zRI m8 := by rw [hm8]; rw [hm6, hm4, hm2]; have z7 : zEm m0 m f 7 := (by have z : k = 7 := (by omega); rw [z] at he; exact he); exact zRI_em hR (zB_ct hG) (by omega) z7 (fun j hj => by show (wuI (wuI m 50 0 f.toNat 0) 51 0 f.toNat 0).1 51 0 j.toNat = _; rw [wuI_at (by omega) hj]; show (if j = f then (0 : Int) else m.1 51 0 j.toNat) = _; rw [hs.1]) (fun j hj => by show (wuI (wuI (wuI m 50 0 f.toNat 0) 51 0 f.toNat 0) 52 0 f.toNat 0).1 52 0 j.toNat = _; rw [wuI_at (by omega) hj]; show (if j = f then (0 : Int) else m.1 52 0 j.toNat) = _; rw [hs.2.1]) (fun j hj => by show (wuI (wuI (wuI (wuI m 50 0 f.toNat 0) 51 0 f.toNat 0) 52 0 f.toNat 0) 53 0 f.toNat 0).1 53 0 j.toNat = _; rw [wuI_at (by omega) hj]; show (if j = f then (0 : Int) else m.1 53 0 j.toNat) = _; rw [hs.2.2.1]) hs.2.2.2
      exact ww_rV rfl rfl ⟨rfl, rfl, zB_mono hGm8 (by omega), hFm8, ⟨hRm8, by trivial⟩⟩
    · show wW (zK sc) zM195 8 [(0, .inr (.inr (.inl (some (34, 0))))), (1, .inl f), (2, .inl k)] [] _ _ _
      refine ww_go 6 (pc' := 15) (L' := [(0, .inr (.inr (.inl (some (34, 0))))), (1, .inl f), (2, .inl k)]) (st' := [.inl ((7 * f) + k), .inr (.inr (.inl (some (34, 0))))]) (m' := m) (o := none) rfl trivial ?_
      refine ww_call (vs := [.inr (.inr (.inl (some (34, 0)))), .inl ((7 * f) + k)]) (r := []) (p := 0 < 1) rfl rfl rfl rfl (show 0 < 1 from by omega) (zs199 (c := c) (by omega) ((7 * f) + k) hGm (by omega)) ?_
      rintro _ _ m12 ⟨rfl, rfl, hGm12, hEm12, hr11⟩
      have hFm12 : zfr (fun k i j => (k = 58) ∨ (k = 59) ∨ (k = 60) ∨ (k = 61) ∨ (k = 34 ∧ j = 30) ∨ (k = 54) ∨ (k = 55) ∨ (k = 57) ∨ (k = 50) ∨ (k = 51) ∨ (k = 52) ∨ (k = 53)) m0 m12 := zfr_tr hFm hEm12 (fun k i j z => Or.elim z (fun z => Or.inl z) (fun z => Or.elim z (fun z => Or.inr (Or.inl z)) (fun z => Or.elim z (fun z => Or.inr (Or.inr (Or.inl z))) (fun z => Or.elim z (fun z => Or.inr (Or.inr (Or.inr (Or.inl z)))) (fun z => Or.elim z (fun z => Or.inr (Or.inr (Or.inr (Or.inr (Or.inl z))))) (fun z => Or.elim z (fun z => Or.inr (Or.inr (Or.inr (Or.inr (Or.inr (Or.inl z)))))) (fun z => Or.elim z (fun z => Or.inr (Or.inr (Or.inr (Or.inr (Or.inr (Or.inr (Or.inl z))))))) (fun z => Or.inr (Or.inr (Or.inr (Or.inr (Or.inr (Or.inr (Or.inr (Or.inl z)))))))))))))))
      show wW (zK sc) zM195 18 [(0, .inr (.inr (.inl (some (34, 0))))), (1, .inl f), (2, .inl k)] [] _ _ _
      refine ww_go 2 (pc' := 2) (L' := [(2, .inl (k + 1)), (0, .inr (.inr (.inl (some (34, 0))))), (1, .inl f)]) (st' := []) (m' := m12) (o := none) rfl trivial ?_
      refine ww_sub (L := [(0, .inr (.inr (.inl (some (34, 0))))), (1, .inl f), (2, .inl (k + 1))]) ⟨rfl, rfl, rfl, trivial⟩ rfl rfl ?_
      exact (ih _ (by omega)) (k + 1) m12 rfl (zB_mono hGm12 (by omega)) hFm12 (by omega) (by exact zEm_s he hr11 (by omega)) (by exact ⟨Eq.trans (show m12.1 51 0 = m.1 51 0 from (by funext j; exact (hEm12 51 0 j (show ¬ ((51 = 58) ∨ (51 = 59) ∨ (51 = 60) ∨ (51 = 61) ∨ (51 = 34 ∧ j = 30) ∨ (51 = 54) ∨ (51 = 55) ∨ (51 = 57)) from by omega)).1)) hs.1, Eq.trans (show m12.1 52 0 = m.1 52 0 from (by funext j; exact (hEm12 52 0 j (show ¬ ((52 = 58) ∨ (52 = 59) ∨ (52 = 60) ∨ (52 = 61) ∨ (52 = 34 ∧ j = 30) ∨ (52 = 54) ∨ (52 = 55) ∨ (52 = 57)) from by omega)).1)) hs.2.1, Eq.trans (show m12.1 53 0 = m.1 53 0 from (by funext j; exact (hEm12 53 0 j (show ¬ ((53 = 58) ∨ (53 = 59) ∨ (53 = 60) ∨ (53 = 61) ∨ (53 = 34 ∧ j = 30) ∨ (53 = 54) ∨ (53 = 55) ∨ (53 = 57)) from by omega)).1)) hs.2.2.1, Eq.trans (show m12.1 56 0 = m.1 56 0 from (by funext j; exact (hEm12 56 0 j (show ¬ ((56 = 58) ∨ (56 = 59) ∨ (56 = 60) ∨ (56 = 61) ∨ (56 = 34 ∧ j = 30) ∨ (56 = 54) ∨ (56 = 55) ∨ (56 = 57)) from by omega)).1)) hs.2.2.2⟩)
set_option maxRecDepth 8000 in
/-- Mo.empty -/
theorem zs195 {sc : xSc} {n : Nat × Nat} {m0 : wm} {c : Int} (hc : 0 ≤ c ∧ c ≤ 1000000) (f : Int) (hG : zB c m0) (hR : zRI m0) (h0 : 0 ≤ f ∧ f ≤ 7) : wX (zK sc) 195 [.inr (.inr (.inl (some (34, 0)))), .inl f] n m0 (wr (fun vv n1 m1 => vv = none ∧ n = n1 ∧ zB c m1 ∧ zfr (fun k i j => (k = 58) ∨ (k = 59) ∨ (k = 60) ∨ (k = 61) ∨ (k = 34 ∧ j = 30) ∨ (k = 54) ∨ (k = 55) ∨ (k = 57) ∨ (k = 50) ∨ (k = 51) ∨ (k = 52) ∨ (k = 53)) m0 m1 ∧ (zRI m1 ∧ (True)))) := by
  refine wX_of (N := zM195) rfl (Nat.le_of_ble_eq_true rfl) ?_
  show wW (zK sc) zM195 0 [(0, .inr (.inr (.inl (some (34, 0))))), (1, .inl f)] [] n m0 _
  have hF : zfr (fun k i j => (k = 58) ∨ (k = 59) ∨ (k = 60) ∨ (k = 61) ∨ (k = 34 ∧ j = 30) ∨ (k = 54) ∨ (k = 55) ∨ (k = 57) ∨ (k = 50) ∨ (k = 51) ∨ (k = 52) ∨ (k = 53)) m0 m0 := zfr_rf
  refine ww_go 2 (pc' := 2) (L' := [(2, .inl 0), (0, .inr (.inr (.inl (some (34, 0))))), (1, .inl f)]) (st' := []) (m' := m0) (o := none) rfl trivial ?_
  refine ww_sub (L := [(0, .inr (.inr (.inl (some (34, 0))))), (1, .inl f), (2, .inl 0)]) ⟨rfl, rfl, rfl, trivial⟩ rfl rfl ?_
  exact (zs195_l2 hc f hG hR h0 _) 0 m0 rfl (zB_mono hG (by omega)) hF (by omega) (by exact zEm_0) (by exact ⟨rfl, rfl, rfl, rfl⟩)
set_option maxRecDepth 8000 in
theorem zs187_l33 {sc : xSc} {n : Nat × Nat} {m0 : wm} {c : Int} (hc : 0 ≤ c ∧ c ≤ 1000000) (f : Int) (hG : zB c m0) (h0 : 0 ≤ f ∧ f ≤ 7) : ∀ (d : Nat), ∀ (i : Int) (m : wm), (7 * f + 7 - i).toNat = d → zB c m → zfr (fun k i j => (k = 50) ∨ (k = 51) ∨ (k = 52) ∨ (k = 53) ∨ (k = 54) ∨ (k = 57) ∨ (k = 55)) m0 m → (7 * f ≤ i ∧ i ≤ 7 * f + 7) → (zEm m0 m f (i - 7 * f)) → (zZe 51 m0 m f ∧ zZe 52 m0 m f ∧ zZe 53 m0 m f) →  wW (zK sc) zM187 33 [(0, .inr (.inr (.inl (some (34, 0))))), (1, .inl f), (2, .inl i)] [] n m (wr (fun vv n1 m1 => vv = none ∧ n = n1 ∧ zB c m1 ∧ zfr (fun k i j => (k = 50) ∨ (k = 51) ∨ (k = 52) ∨ (k = 53) ∨ (k = 54) ∨ (k = 57) ∨ (k = 55)) m0 m1 ∧ (zEm m0 m1 f 7 ∧ zZe 51 m0 m1 f ∧ zZe 52 m0 m1 f ∧ zZe 53 m0 m1 f))) := by
  intro d
  induction d using Nat.strongRecOn with
  | ind d ih =>
    intro i m hd hGm hFm hi he hz
    refine ww_go 6 (pc' := 41) (L' := [(0, .inr (.inr (.inl (some (34, 0))))), (1, .inl f), (2, .inl i)]) (st' := [.inl ((7 * f) + 7), .inl i]) (m' := m) (o := none) rfl trivial ?_
    refine ww_ic (t := 84) rfl rfl (by omega) (fun (h1 : (7 * f) + 7 ≤ i) => ?_) (fun (h1 : ¬ ((7 * f) + 7 ≤ i)) => ?_)
    · show wW (zK sc) zM187 84 [(0, .inr (.inr (.inl (some (34, 0))))), (1, .inl f), (2, .inl i)] [] _ _ _
      exact ww_rV rfl rfl ⟨rfl, rfl, zB_mono hGm (by omega), hFm, ⟨by have z : i - 7 * f = 7 := (by omega); rw [z] at he; exact he, hz⟩⟩
    · show wW (zK sc) zM187 44 [(0, .inr (.inr (.inl (some (34, 0))))), (1, .inl f), (2, .inl i)] [] _ _ _
      refine ww_go 5 (pc' := 51) (L' := [(0, .inr (.inr (.inl (some (34, 0))))), (1, .inl f), (2, .inl i)]) (st' := []) (m' := wuI m 54 0 i.toNat ((-1))) (o := some ((0 < 1) ∧ (0 < 1 ∧ 0 ≤ i ∧ i < ((56 : Nat) : Int)))) rfl (show (0 < 1) ∧ (0 < 1 ∧ 0 ≤ i ∧ i < ((56 : Nat) : Int)) from by omega) ?_
      obtain ⟨m2, hm2⟩ : ∃ zq9 : wm, zq9 = wuI m 54 0 i.toNat ((-1)) := ⟨_, rfl⟩
      rw [← hm2]
      have hGm2 : zB c m2 := by rw [hm2]; exact zB_wI rfl (show (-1) ≤ ((-1) : Int) ∧ ((-1) : Int) ≤ 104 from by omega) hGm
      have hFm2 : zfr (fun k i j => (k = 50) ∨ (k = 51) ∨ (k = 52) ∨ (k = 53) ∨ (k = 54) ∨ (k = 57) ∨ (k = 55)) m0 m2 := by rw [hm2]; exact zfr_wI hFm (show (54 = 50) ∨ (54 = 51) ∨ (54 = 52) ∨ (54 = 53) ∨ (54 = 54) ∨ (54 = 57) ∨ (54 = 55) from Or.inr (Or.inr (Or.inr (Or.inr (Or.inl rfl)))))
      have s3 : m2.1 54 0 i.toNat = ((-1) : Int) := by rw [hm2]; exact wuI_self
      refine ww_go 5 (pc' := 58) (L' := [(0, .inr (.inr (.inl (some (34, 0))))), (1, .inl f), (2, .inl i)]) (st' := []) (m' := wuI m2 57 0 i.toNat 0) (o := some ((0 < 1) ∧ (0 < 1 ∧ 0 ≤ i ∧ i < ((56 : Nat) : Int) ∧ 0 ≤ (0 : Int) ∧ (0 : Int) ≤ 1))) rfl (show (0 < 1) ∧ (0 < 1 ∧ 0 ≤ i ∧ i < ((56 : Nat) : Int) ∧ 0 ≤ (0 : Int) ∧ (0 : Int) ≤ 1) from by omega) ?_
      obtain ⟨m4, hm4⟩ : ∃ zq9 : wm, zq9 = wuI m2 57 0 i.toNat 0 := ⟨_, rfl⟩
      rw [← hm4]
      have hGm4 : zB c m4 := by rw [hm4]; exact zB_wI rfl (show 0 ≤ (0 : Int) ∧ (0 : Int) ≤ 1 from by omega) hGm2
      have hFm4 : zfr (fun k i j => (k = 50) ∨ (k = 51) ∨ (k = 52) ∨ (k = 53) ∨ (k = 54) ∨ (k = 57) ∨ (k = 55)) m0 m4 := by rw [hm4]; exact zfr_wI hFm2 (show (57 = 50) ∨ (57 = 51) ∨ (57 = 52) ∨ (57 = 53) ∨ (57 = 54) ∨ (57 = 57) ∨ (57 = 55) from Or.inr (Or.inr (Or.inr (Or.inr (Or.inr (Or.inl rfl))))))
      have s5 : m4.1 57 0 i.toNat = (0 : Int) := by rw [hm4]; exact wuI_self
      refine ww_go 7 (pc' := 67) (L' := [(0, .inr (.inr (.inl (some (34, 0))))), (1, .inl f), (2, .inl i)]) (st' := []) (m' := wuI m4 55 0 ((2 * i).toNat) 0) (o := some ((0 < 1) ∧ (0 < 1 ∧ 0 ≤ 2 * i ∧ 2 * i < ((112 : Nat) : Int) ∧ 0 ≤ (0 : Int) ∧ (0 : Int) ≤ 1))) rfl (show (0 < 1) ∧ (0 < 1 ∧ 0 ≤ 2 * i ∧ 2 * i < ((112 : Nat) : Int) ∧ 0 ≤ (0 : Int) ∧ (0 : Int) ≤ 1) from by omega) ?_
      obtain ⟨m6, hm6⟩ : ∃ zq9 : wm, zq9 = wuI m4 55 0 ((2 * i).toNat) 0 := ⟨_, rfl⟩
      rw [← hm6]
      have hGm6 : zB c m6 := by rw [hm6]; exact zB_wI rfl (show 0 ≤ (0 : Int) ∧ (0 : Int) ≤ 1 from by omega) hGm4
      have hFm6 : zfr (fun k i j => (k = 50) ∨ (k = 51) ∨ (k = 52) ∨ (k = 53) ∨ (k = 54) ∨ (k = 57) ∨ (k = 55)) m0 m6 := by rw [hm6]; exact zfr_wI hFm4 (show (55 = 50) ∨ (55 = 51) ∨ (55 = 52) ∨ (55 = 53) ∨ (55 = 54) ∨ (55 = 57) ∨ (55 = 55) from Or.inr (Or.inr (Or.inr (Or.inr (Or.inr (Or.inr (rfl)))))))
      have s7 : m6.1 55 0 ((2 * i).toNat) = (0 : Int) := by rw [hm6]; exact wuI_self
      refine ww_go 9 (pc' := 78) (L' := [(0, .inr (.inr (.inl (some (34, 0))))), (1, .inl f), (2, .inl i)]) (st' := []) (m' := wuI m6 55 0 (((2 * i) + 1).toNat) 0) (o := some ((0 < 1) ∧ (0 < 1 ∧ 0 ≤ (2 * i) + 1 ∧ (2 * i) + 1 < ((112 : Nat) : Int) ∧ 0 ≤ (0 : Int) ∧ (0 : Int) ≤ 1))) rfl (show (0 < 1) ∧ (0 < 1 ∧ 0 ≤ (2 * i) + 1 ∧ (2 * i) + 1 < ((112 : Nat) : Int) ∧ 0 ≤ (0 : Int) ∧ (0 : Int) ≤ 1) from by omega) ?_
      obtain ⟨m8, hm8⟩ : ∃ zq9 : wm, zq9 = wuI m6 55 0 (((2 * i) + 1).toNat) 0 := ⟨_, rfl⟩
      rw [← hm8]
      have hGm8 : zB c m8 := by rw [hm8]; exact zB_wI rfl (show 0 ≤ (0 : Int) ∧ (0 : Int) ≤ 1 from by omega) hGm6
      have hFm8 : zfr (fun k i j => (k = 50) ∨ (k = 51) ∨ (k = 52) ∨ (k = 53) ∨ (k = 54) ∨ (k = 57) ∨ (k = 55)) m0 m8 := by rw [hm8]; exact zfr_wI hFm6 (show (55 = 50) ∨ (55 = 51) ∨ (55 = 52) ∨ (55 = 53) ∨ (55 = 54) ∨ (55 = 57) ∨ (55 = 55) from Or.inr (Or.inr (Or.inr (Or.inr (Or.inr (Or.inr (rfl)))))))
      have s9 : m8.1 55 0 (((2 * i) + 1).toNat) = (0 : Int) := by rw [hm8]; exact wuI_self
      refine ww_go 2 (pc' := 33) (L' := [(2, .inl (i + 1)), (0, .inr (.inr (.inl (some (34, 0))))), (1, .inl f)]) (st' := []) (m' := m8) (o := none) rfl trivial ?_
      refine ww_sub (L := [(0, .inr (.inr (.inl (some (34, 0))))), (1, .inl f), (2, .inl (i + 1))]) ⟨rfl, rfl, rfl, trivial⟩ rfl rfl ?_
      exact (ih _ (by omega)) (i + 1) m8 rfl (zB_mono hGm8 (by omega)) hFm8 (by omega) (by rw [hm8, hm6, hm4, hm2]; have z := zEm_w (q := i) he (by omega) (by omega); rwa [show i - 7 * f + 1 = i + 1 - 7 * f from by omega] at z) (by rw [hm8, hm6, hm4, hm2]; exact hz)
set_option maxRecDepth 8000 in
/-- Mo.clear -/
theorem zs187 {sc : xSc} {n : Nat × Nat} {m0 : wm} {c : Int} (hc : 0 ≤ c ∧ c ≤ 1000000) (f : Int) (hG : zB c m0) (h0 : 0 ≤ f ∧ f ≤ 7) : wX (zK sc) 187 [.inr (.inr (.inl (some (34, 0)))), .inl f] n m0 (wr (fun vv n1 m1 => vv = none ∧ n = n1 ∧ zB c m1 ∧ zfr (fun k i j => (k = 50) ∨ (k = 51) ∨ (k = 52) ∨ (k = 53) ∨ (k = 54) ∨ (k = 57) ∨ (k = 55)) m0 m1 ∧ (zEm m0 m1 f 7 ∧ zZe 51 m0 m1 f ∧ zZe 52 m0 m1 f ∧ zZe 53 m0 m1 f))) := by
  refine wX_of (N := zM187) rfl (Nat.le_of_ble_eq_true rfl) ?_
  show wW (zK sc) zM187 0 [(0, .inr (.inr (.inl (some (34, 0))))), (1, .inl f)] [] n m0 _
  have hF : zfr (fun k i j => (k = 50) ∨ (k = 51) ∨ (k = 52) ∨ (k = 53) ∨ (k = 54) ∨ (k = 57) ∨ (k = 55)) m0 m0 := zfr_rf
  refine ww_go 5 (pc' := 7) (L' := [(0, .inr (.inr (.inl (some (34, 0))))), (1, .inl f)]) (st' := []) (m' := wuI m0 50 0 f.toNat 0) (o := some ((0 < 1) ∧ (0 < 1 ∧ 0 ≤ f ∧ f < ((8 : Nat) : Int)))) rfl (show (0 < 1) ∧ (0 < 1 ∧ 0 ≤ f ∧ f < ((8 : Nat) : Int)) from by omega) ?_
  obtain ⟨m1, hm1⟩ : ∃ zq9 : wm, zq9 = wuI m0 50 0 f.toNat 0 := ⟨_, rfl⟩
  rw [← hm1]
  have hGm1 : zB c m1 := by rw [hm1]; exact zB_wI rfl (show 0 ≤ (0 : Int) ∧ (0 : Int) ≤ 65535 from by omega) hG
  have hFm1 : zfr (fun k i j => (k = 50) ∨ (k = 51) ∨ (k = 52) ∨ (k = 53) ∨ (k = 54) ∨ (k = 57) ∨ (k = 55)) m0 m1 := by rw [hm1]; exact zfr_wI hF (show (50 = 50) ∨ (50 = 51) ∨ (50 = 52) ∨ (50 = 53) ∨ (50 = 54) ∨ (50 = 57) ∨ (50 = 55) from Or.inl rfl)
  have s2 : m1.1 50 0 f.toNat = (0 : Int) := by rw [hm1]; exact wuI_self
  refine ww_go 5 (pc' := 14) (L' := [(0, .inr (.inr (.inl (some (34, 0))))), (1, .inl f)]) (st' := []) (m' := wuI m1 51 0 f.toNat 0) (o := some ((0 < 1) ∧ (0 < 1 ∧ 0 ≤ f ∧ f < ((8 : Nat) : Int) ∧ 0 ≤ (0 : Int) ∧ (0 : Int) ≤ 1))) rfl (show (0 < 1) ∧ (0 < 1 ∧ 0 ≤ f ∧ f < ((8 : Nat) : Int) ∧ 0 ≤ (0 : Int) ∧ (0 : Int) ≤ 1) from by omega) ?_
  obtain ⟨m3, hm3⟩ : ∃ zq9 : wm, zq9 = wuI m1 51 0 f.toNat 0 := ⟨_, rfl⟩
  rw [← hm3]
  have hGm3 : zB c m3 := by rw [hm3]; exact zB_wI rfl (show 0 ≤ (0 : Int) ∧ (0 : Int) ≤ 1 from by omega) hGm1
  have hFm3 : zfr (fun k i j => (k = 50) ∨ (k = 51) ∨ (k = 52) ∨ (k = 53) ∨ (k = 54) ∨ (k = 57) ∨ (k = 55)) m0 m3 := by rw [hm3]; exact zfr_wI hFm1 (show (51 = 50) ∨ (51 = 51) ∨ (51 = 52) ∨ (51 = 53) ∨ (51 = 54) ∨ (51 = 57) ∨ (51 = 55) from Or.inr (Or.inl rfl))
  have s4 : m3.1 51 0 f.toNat = (0 : Int) := by rw [hm3]; exact wuI_self
  refine ww_go 5 (pc' := 21) (L' := [(0, .inr (.inr (.inl (some (34, 0))))), (1, .inl f)]) (st' := []) (m' := wuI m3 52 0 f.toNat 0) (o := some ((0 < 1) ∧ (0 < 1 ∧ 0 ≤ f ∧ f < ((8 : Nat) : Int)))) rfl (show (0 < 1) ∧ (0 < 1 ∧ 0 ≤ f ∧ f < ((8 : Nat) : Int)) from by omega) ?_
  obtain ⟨m5, hm5⟩ : ∃ zq9 : wm, zq9 = wuI m3 52 0 f.toNat 0 := ⟨_, rfl⟩
  rw [← hm5]
  have hGm5 : zB c m5 := by rw [hm5]; exact zB_wI rfl (show 0 ≤ (0 : Int) ∧ (0 : Int) ≤ 6 from by omega) hGm3
  have hFm5 : zfr (fun k i j => (k = 50) ∨ (k = 51) ∨ (k = 52) ∨ (k = 53) ∨ (k = 54) ∨ (k = 57) ∨ (k = 55)) m0 m5 := by rw [hm5]; exact zfr_wI hFm3 (show (52 = 50) ∨ (52 = 51) ∨ (52 = 52) ∨ (52 = 53) ∨ (52 = 54) ∨ (52 = 57) ∨ (52 = 55) from Or.inr (Or.inr (Or.inl rfl)))
  have s6 : m5.1 52 0 f.toNat = (0 : Int) := by rw [hm5]; exact wuI_self
  refine ww_go 5 (pc' := 28) (L' := [(0, .inr (.inr (.inl (some (34, 0))))), (1, .inl f)]) (st' := []) (m' := wuI m5 53 0 f.toNat 0) (o := some ((0 < 1) ∧ (0 < 1 ∧ 0 ≤ f ∧ f < ((8 : Nat) : Int)))) rfl (show (0 < 1) ∧ (0 < 1 ∧ 0 ≤ f ∧ f < ((8 : Nat) : Int)) from by omega) ?_
  obtain ⟨m7, hm7⟩ : ∃ zq9 : wm, zq9 = wuI m5 53 0 f.toNat 0 := ⟨_, rfl⟩
  rw [← hm7]
  have hGm7 : zB c m7 := by rw [hm7]; exact zB_wI rfl (show 0 ≤ (0 : Int) ∧ (0 : Int) ≤ 2 from by omega) hGm5
  have hFm7 : zfr (fun k i j => (k = 50) ∨ (k = 51) ∨ (k = 52) ∨ (k = 53) ∨ (k = 54) ∨ (k = 57) ∨ (k = 55)) m0 m7 := by rw [hm7]; exact zfr_wI hFm5 (show (53 = 50) ∨ (53 = 51) ∨ (53 = 52) ∨ (53 = 53) ∨ (53 = 54) ∨ (53 = 57) ∨ (53 = 55) from Or.inr (Or.inr (Or.inr (Or.inl rfl))))
  have s8 : m7.1 53 0 f.toNat = (0 : Int) := by rw [hm7]; exact wuI_self
  refine ww_go 4 (pc' := 33) (L' := [(2, .inl (7 * f)), (0, .inr (.inr (.inl (some (34, 0))))), (1, .inl f)]) (st' := []) (m' := m7) (o := none) rfl trivial ?_
  refine ww_sub (L := [(0, .inr (.inr (.inl (some (34, 0))))), (1, .inl f), (2, .inl (7 * f))]) ⟨rfl, rfl, rfl, trivial⟩ rfl rfl ?_
  exact (zs187_l33 hc f hG h0 _) (7 * f) m7 rfl (zB_mono hGm7 (by omega)) hFm7 (by omega) (by rw [show 7 * f - 7 * f = 0 from by omega]; rw [hm7, hm5, hm3, hm1]; exact (zEm_0 : zEm m0 m0 f 0)) (by rw [hm7, hm5, hm3, hm1]; exact ⟨(fun j hj => by show (wuI (wuI m0 50 0 f.toNat 0) 51 0 f.toNat 0).1 51 0 j.toNat = _; rw [wuI_at (by omega) hj]; rfl), (fun j hj => by show (wuI (wuI (wuI m0 50 0 f.toNat 0) 51 0 f.toNat 0) 52 0 f.toNat 0).1 52 0 j.toNat = _; rw [wuI_at (by omega) hj]; rfl), (fun j hj => by show (wuI (wuI (wuI (wuI m0 50 0 f.toNat 0) 51 0 f.toNat 0) 52 0 f.toNat 0) 53 0 f.toNat 0).1 53 0 j.toNat = _; rw [wuI_at (by omega) hj]; rfl)⟩)
set_option maxRecDepth 8000 in
theorem zs244_l191 {sc : xSc} {n : Nat × Nat} {m0 : wm} {c : Int} (hc : 0 ≤ c ∧ c ≤ 1000000) (f : Int) (hG : zB c m0) (hR : zRI m0) (h0 : 1 ≤ f ∧ f ≤ 7) : ∀ (d : Nat), ∀ (k : Int) (m : wm), (24 - k).toNat = d → zB c m → zfr (fun k i j => (k = 50) ∨ (k = 51) ∨ (k = 52) ∨ (k = 53) ∨ (k = 54) ∨ (k = 57) ∨ (k = 55) ∨ (k = 56) ∨ (k = 58)) m0 m → (0 ≤ k ∧ k ≤ 24) → (zCp 51 m0 m (f - 1) (f) 1) → (zCp 52 m0 m (f - 1) (f) 1) → (zCp 53 m0 m (f - 1) (f) 1) → (zCp 54 m0 m (7 * f - 7) (7 * f) 7) → (zCp 55 m0 m (14 * f - 14) (14 * f) 14) → (zCp 56 m0 m (728 * f - 728) (728 * f) 728) → (zCp 57 m0 m (7 * f - 7) (7 * f) 7) →  wW (zK sc) zM244 191 [(0, .inr (.inr (.inl (some (34, 0))))), (1, .inl f), (2, .inl k)] [] n m (wr (fun vv n1 m1 => vv = none ∧ n = n1 ∧ zB c m1 ∧ zfr (fun k i j => (k = 50) ∨ (k = 51) ∨ (k = 52) ∨ (k = 53) ∨ (k = 54) ∨ (k = 57) ∨ (k = 55) ∨ (k = 56) ∨ (k = 58)) m0 m1 ∧ (zRI m1 ∧ (True)))) := by
  intro d
  induction d using Nat.strongRecOn with
  | ind d ih =>
    intro k m hd hGm hFm hi q51 q52 q53 q54 q55 q56 q57
    have b1 : 0 ≤ m.1 34 0 30 ∧ m.1 34 0 30 ≤ 24 := hGm.1 34 _ rfl _ _
    refine ww_go 3 (pc' := 196) (L' := [(0, .inr (.inr (.inl (some (34, 0))))), (1, .inl f), (2, .inl k)]) (st' := [.inl (m.1 34 0 30), .inl k]) (m' := m) (o := some ((0 < 1))) rfl (show (0 < 1) from by omega) ?_
    refine ww_ic (t := 242) rfl rfl (by omega) (fun (h2 : m.1 34 0 30 ≤ k) => ?_) (fun (h2 : ¬ (m.1 34 0 30 ≤ k)) => ?_)
    · show wW (zK sc) zM244 242 [(0, .inr (.inr (.inl (some (34, 0))))), (1, .inl f), (2, .inl k)] [] _ _ _
      refine ww_go 2 (pc' := 244) (L' := [(0, .inr (.inr (.inl (some (34, 0))))), (1, .inl f), (2, .inl k)]) (st' := [.inl f, .inr (.inr (.inl (some (34, 0))))]) (m' := m) (o := none) rfl trivial ?_
      refine ww_call (vs := [.inr (.inr (.inl (some (34, 0)))), .inl f]) (r := []) (p := 0 < 1) rfl rfl rfl rfl (show 0 < 1 from by omega) (zs187 (c := c) (by omega) f hGm (by omega)) ?_
      rintro _ _ m5 ⟨rfl, rfl, hGm5, hEm5, hr4⟩
      have hFm5 : zfr (fun k i j => (k = 50) ∨ (k = 51) ∨ (k = 52) ∨ (k = 53) ∨ (k = 54) ∨ (k = 57) ∨ (k = 55) ∨ (k = 56) ∨ (k = 58)) m0 m5 := zfr_tr hFm hEm5 (fun k i j z => Or.elim z (fun z => Or.inl z) (fun z => Or.elim z (fun z => Or.inr (Or.inl z)) (fun z => Or.elim z (fun z => Or.inr (Or.inr (Or.inl z))) (fun z => Or.elim z (fun z => Or.inr (Or.inr (Or.inr (Or.inl z)))) (fun z => Or.elim z (fun z => Or.inr (Or.inr (Or.inr (Or.inr (Or.inl z))))) (fun z => Or.elim z (fun z => Or.inr (Or.inr (Or.inr (Or.inr (Or.inr (Or.inl z)))))) (fun z => Or.inr (Or.inr (Or.inr (Or.inr (Or.inr (Or.inr (Or.inl z)))))))))))))
      have hRm5 : zRI m5 := zRI_sh hR (zB_ct hG) (by omega) q51 q52 q53 q54 q55 q57 q56 (hr4).1 (hr4).2.1 (hr4).2.2.1 (hr4).2.2.2 (by funext j; exact (hEm5 56 0 j (show ¬ ((56 = 50) ∨ (56 = 51) ∨ (56 = 52) ∨ (56 = 53) ∨ (56 = 54) ∨ (56 = 57) ∨ (56 = 55)) from by omega)).1)
      show wW (zK sc) zM244 247 [(0, .inr (.inr (.inl (some (34, 0))))), (1, .inl f), (2, .inl k)] [] _ _ _
      exact ww_rV rfl rfl ⟨rfl, rfl, zB_mono hGm5 (by omega), hFm5, ⟨hRm5, by trivial⟩⟩
    · show wW (zK sc) zM244 199 [(0, .inr (.inr (.inl (some (34, 0))))), (1, .inl f), (2, .inl k)] [] _ _ _
      have b6 : 0 ≤ m.1 58 0 k.toNat ∧ m.1 58 0 k.toNat ≤ 55 := hGm.1 58 _ rfl _ _
      have t7 : (0 ≤ (m.1 58 0 k.toNat) → (m.1 58 0 k.toNat).tdiv 7 = (m.1 58 0 k.toNat) / 7) ∧ ((m.1 58 0 k.toNat) < 0 → (m.1 58 0 k.toNat).tdiv 7 = -((-((m.1 58 0 k.toNat))) / 7)) := ⟨fun z => Int.tdiv_eq_ediv_of_nonneg z, fun z => wtdiv_neg z⟩
      refine ww_go 10 (pc' := 214) (L' := [(0, .inr (.inr (.inl (some (34, 0))))), (1, .inl f), (2, .inl k)]) (st' := [.inl f, .inl ((m.1 58 0 k.toNat).tdiv 7), .inl k, .inr (.inr (.inl (some (58, 0))))]) (m' := m) (o := some ((0 < 1) ∧ (0 < 1) ∧ (0 < 1 ∧ 0 ≤ k ∧ k < ((24 : Nat) : Int)) ∧ (-2147483648 ≤ m.1 58 0 k.toNat ∧ m.1 58 0 k.toNat ≤ 2147483647 ∧ 0 < (7 : Int) ∧ (7 : Int) ≤ 2147483647))) rfl (show (0 < 1) ∧ (0 < 1) ∧ (0 < 1 ∧ 0 ≤ k ∧ k < ((24 : Nat) : Int)) ∧ (-2147483648 ≤ m.1 58 0 k.toNat ∧ m.1 58 0 k.toNat ≤ 2147483647 ∧ 0 < (7 : Int) ∧ (7 : Int) ≤ 2147483647) from by omega) ?_
      refine ww_ic (t := 229) rfl rfl (by omega) (fun (h8 : (m.1 58 0 k.toNat).tdiv 7 ≠ f) => ?_) (fun (h8 : ¬ ((m.1 58 0 k.toNat).tdiv 7 ≠ f)) => ?_)
      · show wW (zK sc) zM244 229 [(0, .inr (.inr (.inl (some (34, 0))))), (1, .inl f), (2, .inl k)] [.inl k, .inr (.inr (.inl (some (58, 0))))] _ _ _
        have b9 : 0 ≤ m.1 58 0 k.toNat ∧ m.1 58 0 k.toNat ≤ 55 := hGm.1 58 _ rfl _ _
        refine ww_go 5 (pc' := 236) (L' := [(0, .inr (.inr (.inl (some (34, 0))))), (1, .inl f), (2, .inl k)]) (st' := []) (m' := wuI m 58 0 k.toNat (m.1 58 0 k.toNat)) (o := some ((0 < 1) ∧ (0 < 1 ∧ 0 ≤ k ∧ k < ((24 : Nat) : Int)) ∧ (0 < 1 ∧ 0 ≤ k ∧ k < ((24 : Nat) : Int)))) rfl (show (0 < 1) ∧ (0 < 1 ∧ 0 ≤ k ∧ k < ((24 : Nat) : Int)) ∧ (0 < 1 ∧ 0 ≤ k ∧ k < ((24 : Nat) : Int)) from by omega) ?_
        obtain ⟨m10, hm10⟩ : ∃ zq9 : wm, zq9 = wuI m 58 0 k.toNat (m.1 58 0 k.toNat) := ⟨_, rfl⟩
        rw [← hm10]
        have hGm10 : zB c m10 := by rw [hm10]; exact zB_wI rfl (show 0 ≤ m.1 58 0 k.toNat ∧ m.1 58 0 k.toNat ≤ 55 from by omega) hGm
        have hFm10 : zfr (fun k i j => (k = 50) ∨ (k = 51) ∨ (k = 52) ∨ (k = 53) ∨ (k = 54) ∨ (k = 57) ∨ (k = 55) ∨ (k = 56) ∨ (k = 58)) m0 m10 := by rw [hm10]; exact zfr_wI hFm (show (58 = 50) ∨ (58 = 51) ∨ (58 = 52) ∨ (58 = 53) ∨ (58 = 54) ∨ (58 = 57) ∨ (58 = 55) ∨ (58 = 56) ∨ (58 = 58) from Or.inr (Or.inr (Or.inr (Or.inr (Or.inr (Or.inr (Or.inr (Or.inr (rfl)))))))))
        have s11 : m10.1 58 0 k.toNat = m.1 58 0 k.toNat := by rw [hm10]; exact wuI_self
        have cp12 : zCp 51 m0 m10 (f - 1) (f) 1 := by rw [hm10]; exact q51
        have cp13 : zCp 52 m0 m10 (f - 1) (f) 1 := by rw [hm10]; exact q52
        have cp14 : zCp 53 m0 m10 (f - 1) (f) 1 := by rw [hm10]; exact q53
        have cp15 : zCp 54 m0 m10 (7 * f - 7) (7 * f) 7 := by rw [hm10]; exact q54
        have cp16 : zCp 55 m0 m10 (14 * f - 14) (14 * f) 14 := by rw [hm10]; exact q55
        have cp17 : zCp 56 m0 m10 (728 * f - 728) (728 * f) 728 := by rw [hm10]; exact q56
        have cp18 : zCp 57 m0 m10 (7 * f - 7) (7 * f) 7 := by rw [hm10]; exact q57
        refine ww_go 2 (pc' := 191) (L' := [(2, .inl (k + 1)), (0, .inr (.inr (.inl (some (34, 0))))), (1, .inl f)]) (st' := []) (m' := m10) (o := none) rfl trivial ?_
        refine ww_sub (L := [(0, .inr (.inr (.inl (some (34, 0))))), (1, .inl f), (2, .inl (k + 1))]) ⟨rfl, rfl, rfl, trivial⟩ rfl rfl ?_
        exact (ih _ (by omega)) (k + 1) m10 rfl (zB_mono hGm10 (by omega)) hFm10 (by omega) (by exact zCp_hi cp12 (by omega)) (by exact zCp_hi cp13 (by omega)) (by exact zCp_hi cp14 (by omega)) (by exact zCp_hi cp15 (by omega)) (by exact zCp_hi cp16 (by omega)) (by exact zCp_hi cp17 (by omega)) (by exact zCp_hi cp18 (by omega))
      · show wW (zK sc) zM244 217 [(0, .inr (.inr (.inl (some (34, 0))))), (1, .inl f), (2, .inl k)] [.inl k, .inr (.inr (.inl (some (58, 0))))] _ _ _
        have b19 : 0 ≤ m.1 58 0 k.toNat ∧ m.1 58 0 k.toNat ≤ 55 := hGm.1 58 _ rfl _ _
        refine ww_go 8 (pc' := 236) (L' := [(0, .inr (.inr (.inl (some (34, 0))))), (1, .inl f), (2, .inl k)]) (st' := []) (m' := wuI m 58 0 k.toNat ((m.1 58 0 k.toNat) - 7)) (o := some ((0 < 1) ∧ (0 < 1 ∧ 0 ≤ k ∧ k < ((24 : Nat) : Int)) ∧ (0 < 1 ∧ 0 ≤ k ∧ k < ((24 : Nat) : Int)))) rfl (show (0 < 1) ∧ (0 < 1 ∧ 0 ≤ k ∧ k < ((24 : Nat) : Int)) ∧ (0 < 1 ∧ 0 ≤ k ∧ k < ((24 : Nat) : Int)) from by omega) ?_
        obtain ⟨m20, hm20⟩ : ∃ zq9 : wm, zq9 = wuI m 58 0 k.toNat ((m.1 58 0 k.toNat) - 7) := ⟨_, rfl⟩
        rw [← hm20]
        have hGm20 : zB c m20 := by rw [hm20]; exact zB_wI rfl (show 0 ≤ (m.1 58 0 k.toNat) - 7 ∧ (m.1 58 0 k.toNat) - 7 ≤ 55 from by omega) hGm
        have hFm20 : zfr (fun k i j => (k = 50) ∨ (k = 51) ∨ (k = 52) ∨ (k = 53) ∨ (k = 54) ∨ (k = 57) ∨ (k = 55) ∨ (k = 56) ∨ (k = 58)) m0 m20 := by rw [hm20]; exact zfr_wI hFm (show (58 = 50) ∨ (58 = 51) ∨ (58 = 52) ∨ (58 = 53) ∨ (58 = 54) ∨ (58 = 57) ∨ (58 = 55) ∨ (58 = 56) ∨ (58 = 58) from Or.inr (Or.inr (Or.inr (Or.inr (Or.inr (Or.inr (Or.inr (Or.inr (rfl)))))))))
        have s21 : m20.1 58 0 k.toNat = (m.1 58 0 k.toNat) - 7 := by rw [hm20]; exact wuI_self
        have cp22 : zCp 51 m0 m20 (f - 1) (f) 1 := by rw [hm20]; exact q51
        have cp23 : zCp 52 m0 m20 (f - 1) (f) 1 := by rw [hm20]; exact q52
        have cp24 : zCp 53 m0 m20 (f - 1) (f) 1 := by rw [hm20]; exact q53
        have cp25 : zCp 54 m0 m20 (7 * f - 7) (7 * f) 7 := by rw [hm20]; exact q54
        have cp26 : zCp 55 m0 m20 (14 * f - 14) (14 * f) 14 := by rw [hm20]; exact q55
        have cp27 : zCp 56 m0 m20 (728 * f - 728) (728 * f) 728 := by rw [hm20]; exact q56
        have cp28 : zCp 57 m0 m20 (7 * f - 7) (7 * f) 7 := by rw [hm20]; exact q57
        refine ww_go 2 (pc' := 191) (L' := [(2, .inl (k + 1)), (0, .inr (.inr (.inl (some (34, 0))))), (1, .inl f)]) (st' := []) (m' := m20) (o := none) rfl trivial ?_
        refine ww_sub (L := [(0, .inr (.inr (.inl (some (34, 0))))), (1, .inl f), (2, .inl (k + 1))]) ⟨rfl, rfl, rfl, trivial⟩ rfl rfl ?_
        exact (ih _ (by omega)) (k + 1) m20 rfl (zB_mono hGm20 (by omega)) hFm20 (by omega) (by exact zCp_hi cp22 (by omega)) (by exact zCp_hi cp23 (by omega)) (by exact zCp_hi cp24 (by omega)) (by exact zCp_hi cp25 (by omega)) (by exact zCp_hi cp26 (by omega)) (by exact zCp_hi cp27 (by omega)) (by exact zCp_hi cp28 (by omega))
set_option maxRecDepth 8000 in
theorem zs244_l61 {sc : xSc} {n : Nat × Nat} {m0 : wm} {c : Int} (hc : 0 ≤ c ∧ c ≤ 1000000) (f : Int) (hG : zB c m0) (hR : zRI m0) (h0 : 1 ≤ f ∧ f ≤ 7) : ∀ (d : Nat), (∀ (i : Int) (m : wm), (7 * f + 7 - i).toNat * 1000 + 999 = d → zB c m → zfr (fun k i j => (k = 50) ∨ (k = 51) ∨ (k = 52) ∨ (k = 53) ∨ (k = 54) ∨ (k = 57) ∨ (k = 55) ∨ (k = 56) ∨ (k = 58)) m0 m → (7 * f ≤ i ∧ i ≤ 7 * f + 7) → (zCp 51 m0 m (f - 1) (f) 1) → (zCp 52 m0 m (f - 1) (f) 1) → (zCp 53 m0 m (f - 1) (f) 1) → (zCp 54 m0 m (7 * f - 7) (i - 7) 7) → (zCp 55 m0 m (14 * f - 14) (2 * i - 14) 14) → (zCp 56 m0 m (728 * f - 728) (104 * i - 728) 728) → (zCp 57 m0 m (7 * f - 7) (i - 7) 7) →  wW (zK sc) zM244 61 [(0, .inr (.inr (.inl (some (34, 0))))), (1, .inl f), (2, .inl i)] [] n m (wr (fun vv n1 m1 => vv = none ∧ n = n1 ∧ zB c m1 ∧ zfr (fun k i j => (k = 50) ∨ (k = 51) ∨ (k = 52) ∨ (k = 53) ∨ (k = 54) ∨ (k = 57) ∨ (k = 55) ∨ (k = 56) ∨ (k = 58)) m0 m1 ∧ (zRI m1 ∧ (True))))) ∧ (∀ (i : Int) (k : Int) (m : wm), (7 * f + 7 - i).toNat * 1000 + (104 - k).toNat = d → zB c m → zfr (fun k i j => (k = 50) ∨ (k = 51) ∨ (k = 52) ∨ (k = 53) ∨ (k = 54) ∨ (k = 57) ∨ (k = 55) ∨ (k = 56) ∨ (k = 58)) m0 m → (7 * f ≤ i ∧ i ≤ 7 * f + 6 ∧ 0 ≤ k ∧ k ≤ 104) → (zCp 51 m0 m (f - 1) (f) 1) → (zCp 52 m0 m (f - 1) (f) 1) → (zCp 53 m0 m (f - 1) (f) 1) → (zCp 54 m0 m (7 * f - 7) (i - 6) 7) → (zCp 55 m0 m (14 * f - 14) (2 * i - 12) 14) → (zCp 56 m0 m (728 * f - 728) (104 * i - 728 + k) 728) → (zCp 57 m0 m (7 * f - 7) (i - 6) 7) →  wW (zK sc) zM244 146 [(0, .inr (.inr (.inl (some (34, 0))))), (1, .inl f), (2, .inl i), (3, .inl k)] [] n m (wr (fun vv n1 m1 => vv = none ∧ n = n1 ∧ zB c m1 ∧ zfr (fun k i j => (k = 50) ∨ (k = 51) ∨ (k = 52) ∨ (k = 53) ∨ (k = 54) ∨ (k = 57) ∨ (k = 55) ∨ (k = 56) ∨ (k = 58)) m0 m1 ∧ (zRI m1 ∧ (True))))) := by
  intro d
  induction d using Nat.strongRecOn with
  | ind d ih =>
    refine ⟨?_, ?_⟩
    · intro i m hd hGm hFm hi q51 q52 q53 q54 q55 q56 q57
      refine ww_go 6 (pc' := 69) (L' := [(0, .inr (.inr (.inl (some (34, 0))))), (1, .inl f), (2, .inl i)]) (st' := [.inl ((7 * f) + 7), .inl i]) (m' := m) (o := none) rfl trivial ?_
      refine ww_ic (t := 189) rfl rfl (by omega) (fun (h1 : (7 * f) + 7 ≤ i) => ?_) (fun (h1 : ¬ ((7 * f) + 7 ≤ i)) => ?_)
      · show wW (zK sc) zM244 189 [(0, .inr (.inr (.inl (some (34, 0))))), (1, .inl f), (2, .inl i)] [] _ _ _
        refine ww_go 2 (pc' := 191) (L' := [(2, .inl 0), (0, .inr (.inr (.inl (some (34, 0))))), (1, .inl f)]) (st' := []) (m' := m) (o := none) rfl trivial ?_
        refine ww_sub (L := [(0, .inr (.inr (.inl (some (34, 0))))), (1, .inl f), (2, .inl 0)]) ⟨rfl, rfl, rfl, trivial⟩ rfl rfl ?_
        exact (zs244_l191 hc f hG hR h0 _) 0 m rfl (zB_mono hGm (by omega)) hFm (by omega) (by exact zCp_hi q51 (by omega)) (by exact zCp_hi q52 (by omega)) (by exact zCp_hi q53 (by omega)) (by exact zCp_hi q54 (by omega)) (by exact zCp_hi q55 (by omega)) (by exact zCp_hi q56 (by omega)) (by exact zCp_hi q57 (by omega))
      · show wW (zK sc) zM244 72 [(0, .inr (.inr (.inl (some (34, 0))))), (1, .inl f), (2, .inl i)] [] _ _ _
        have b2 : (-1) ≤ m.1 54 0 i.toNat ∧ m.1 54 0 i.toNat ≤ 104 := hGm.1 54 _ rfl _ _
        refine ww_go 10 (pc' := 87) (L' := [(0, .inr (.inr (.inl (some (34, 0))))), (1, .inl f), (2, .inl i)]) (st' := []) (m' := wuI m 54 0 ((i - 7).toNat) (m.1 54 0 i.toNat)) (o := some ((0 < 1) ∧ (0 < 1) ∧ (0 < 1 ∧ 0 ≤ i ∧ i < ((56 : Nat) : Int)) ∧ (0 < 1 ∧ 0 ≤ i - 7 ∧ i - 7 < ((56 : Nat) : Int)))) rfl (show (0 < 1) ∧ (0 < 1) ∧ (0 < 1 ∧ 0 ≤ i ∧ i < ((56 : Nat) : Int)) ∧ (0 < 1 ∧ 0 ≤ i - 7 ∧ i - 7 < ((56 : Nat) : Int)) from by omega) ?_
        obtain ⟨m3, hm3⟩ : ∃ zq9 : wm, zq9 = wuI m 54 0 ((i - 7).toNat) (m.1 54 0 i.toNat) := ⟨_, rfl⟩
        rw [← hm3]
        have hGm3 : zB c m3 := by rw [hm3]; exact zB_wI rfl (show (-1) ≤ m.1 54 0 i.toNat ∧ m.1 54 0 i.toNat ≤ 104 from by omega) hGm
        have hFm3 : zfr (fun k i j => (k = 50) ∨ (k = 51) ∨ (k = 52) ∨ (k = 53) ∨ (k = 54) ∨ (k = 57) ∨ (k = 55) ∨ (k = 56) ∨ (k = 58)) m0 m3 := by rw [hm3]; exact zfr_wI hFm (show (54 = 50) ∨ (54 = 51) ∨ (54 = 52) ∨ (54 = 53) ∨ (54 = 54) ∨ (54 = 57) ∨ (54 = 55) ∨ (54 = 56) ∨ (54 = 58) from Or.inr (Or.inr (Or.inr (Or.inr (Or.inl rfl)))))
        have s4 : m3.1 54 0 ((i - 7).toNat) = m.1 54 0 i.toNat := by rw [hm3]; exact wuI_self
        have cp5 : zCp 51 m0 m3 (f - 1) (f) 1 := by rw [hm3]; exact q51
        have cp6 : zCp 52 m0 m3 (f - 1) (f) 1 := by rw [hm3]; exact q52
        have cp7 : zCp 53 m0 m3 (f - 1) (f) 1 := by rw [hm3]; exact q53
        have cp8 : zCp 54 m0 m3 (7 * f - 7) (i - 7 + 1) 7 := by rw [hm3]; exact zCp_s (t := i) q54 (by omega) (by omega) (by omega) rfl
        have cp9 : zCp 55 m0 m3 (14 * f - 14) (2 * i - 14) 14 := by rw [hm3]; exact q55
        have cp10 : zCp 56 m0 m3 (728 * f - 728) (104 * i - 728) 728 := by rw [hm3]; exact q56
        have cp11 : zCp 57 m0 m3 (7 * f - 7) (i - 7) 7 := by rw [hm3]; exact q57
        have b12 : 0 ≤ m3.1 57 0 i.toNat ∧ m3.1 57 0 i.toNat ≤ 1 := hGm3.1 57 _ rfl _ _
        refine ww_go 10 (pc' := 102) (L' := [(0, .inr (.inr (.inl (some (34, 0))))), (1, .inl f), (2, .inl i)]) (st' := []) (m' := wuI m3 57 0 ((i - 7).toNat) (m3.1 57 0 i.toNat)) (o := some ((0 < 1) ∧ (0 < 1) ∧ (0 < 1 ∧ 0 ≤ i ∧ i < ((56 : Nat) : Int)) ∧ (0 < 1 ∧ 0 ≤ i - 7 ∧ i - 7 < ((56 : Nat) : Int) ∧ 0 ≤ m3.1 57 0 i.toNat ∧ m3.1 57 0 i.toNat ≤ 1))) rfl (show (0 < 1) ∧ (0 < 1) ∧ (0 < 1 ∧ 0 ≤ i ∧ i < ((56 : Nat) : Int)) ∧ (0 < 1 ∧ 0 ≤ i - 7 ∧ i - 7 < ((56 : Nat) : Int) ∧ 0 ≤ m3.1 57 0 i.toNat ∧ m3.1 57 0 i.toNat ≤ 1) from by omega) ?_
        obtain ⟨m13, hm13⟩ : ∃ zq9 : wm, zq9 = wuI m3 57 0 ((i - 7).toNat) (m3.1 57 0 i.toNat) := ⟨_, rfl⟩
        rw [← hm13]
        have hGm13 : zB c m13 := by rw [hm13]; exact zB_wI rfl (show 0 ≤ m3.1 57 0 i.toNat ∧ m3.1 57 0 i.toNat ≤ 1 from by omega) hGm3
        have hFm13 : zfr (fun k i j => (k = 50) ∨ (k = 51) ∨ (k = 52) ∨ (k = 53) ∨ (k = 54) ∨ (k = 57) ∨ (k = 55) ∨ (k = 56) ∨ (k = 58)) m0 m13 := by rw [hm13]; exact zfr_wI hFm3 (show (57 = 50) ∨ (57 = 51) ∨ (57 = 52) ∨ (57 = 53) ∨ (57 = 54) ∨ (57 = 57) ∨ (57 = 55) ∨ (57 = 56) ∨ (57 = 58) from Or.inr (Or.inr (Or.inr (Or.inr (Or.inr (Or.inl rfl))))))
        have s14 : m13.1 57 0 ((i - 7).toNat) = m3.1 57 0 i.toNat := by rw [hm13]; exact wuI_self
        have cp15 : zCp 51 m0 m13 (f - 1) (f) 1 := by rw [hm13]; exact cp5
        have cp16 : zCp 52 m0 m13 (f - 1) (f) 1 := by rw [hm13]; exact cp6
        have cp17 : zCp 53 m0 m13 (f - 1) (f) 1 := by rw [hm13]; exact cp7
        have cp18 : zCp 54 m0 m13 (7 * f - 7) (i - 7 + 1) 7 := by rw [hm13]; exact cp8
        have cp19 : zCp 55 m0 m13 (14 * f - 14) (2 * i - 14) 14 := by rw [hm13]; exact cp9
        have cp20 : zCp 56 m0 m13 (728 * f - 728) (104 * i - 728) 728 := by rw [hm13]; exact cp10
        have cp21 : zCp 57 m0 m13 (7 * f - 7) (i - 7 + 1) 7 := by rw [hm13]; exact zCp_s (t := i) cp11 (by omega) (by omega) (by omega) rfl
        have b22 : 0 ≤ m13.1 55 0 ((2 * i).toNat) ∧ m13.1 55 0 ((2 * i).toNat) ≤ 1 := hGm13.1 55 _ rfl _ _
        refine ww_go 14 (pc' := 121) (L' := [(0, .inr (.inr (.inl (some (34, 0))))), (1, .inl f), (2, .inl i)]) (st' := []) (m' := wuI m13 55 0 ((2 * (i - 7)).toNat) (m13.1 55 0 ((2 * i).toNat))) (o := some ((0 < 1) ∧ (0 < 1) ∧ (0 < 1 ∧ 0 ≤ 2 * i ∧ 2 * i < ((112 : Nat) : Int)) ∧ (0 < 1 ∧ 0 ≤ 2 * (i - 7) ∧ 2 * (i - 7) < ((112 : Nat) : Int) ∧ 0 ≤ m13.1 55 0 ((2 * i).toNat) ∧ m13.1 55 0 ((2 * i).toNat) ≤ 1))) rfl (show (0 < 1) ∧ (0 < 1) ∧ (0 < 1 ∧ 0 ≤ 2 * i ∧ 2 * i < ((112 : Nat) : Int)) ∧ (0 < 1 ∧ 0 ≤ 2 * (i - 7) ∧ 2 * (i - 7) < ((112 : Nat) : Int) ∧ 0 ≤ m13.1 55 0 ((2 * i).toNat) ∧ m13.1 55 0 ((2 * i).toNat) ≤ 1) from by omega) ?_
        obtain ⟨m23, hm23⟩ : ∃ zq9 : wm, zq9 = wuI m13 55 0 ((2 * (i - 7)).toNat) (m13.1 55 0 ((2 * i).toNat)) := ⟨_, rfl⟩
        rw [← hm23]
        have hGm23 : zB c m23 := by rw [hm23]; exact zB_wI rfl (show 0 ≤ m13.1 55 0 ((2 * i).toNat) ∧ m13.1 55 0 ((2 * i).toNat) ≤ 1 from by omega) hGm13
        have hFm23 : zfr (fun k i j => (k = 50) ∨ (k = 51) ∨ (k = 52) ∨ (k = 53) ∨ (k = 54) ∨ (k = 57) ∨ (k = 55) ∨ (k = 56) ∨ (k = 58)) m0 m23 := by rw [hm23]; exact zfr_wI hFm13 (show (55 = 50) ∨ (55 = 51) ∨ (55 = 52) ∨ (55 = 53) ∨ (55 = 54) ∨ (55 = 57) ∨ (55 = 55) ∨ (55 = 56) ∨ (55 = 58) from Or.inr (Or.inr (Or.inr (Or.inr (Or.inr (Or.inr (Or.inl rfl)))))))
        have s24 : m23.1 55 0 ((2 * (i - 7)).toNat) = m13.1 55 0 ((2 * i).toNat) := by rw [hm23]; exact wuI_self
        have cp25 : zCp 51 m0 m23 (f - 1) (f) 1 := by rw [hm23]; exact cp15
        have cp26 : zCp 52 m0 m23 (f - 1) (f) 1 := by rw [hm23]; exact cp16
        have cp27 : zCp 53 m0 m23 (f - 1) (f) 1 := by rw [hm23]; exact cp17
        have cp28 : zCp 54 m0 m23 (7 * f - 7) (i - 7 + 1) 7 := by rw [hm23]; exact cp18
        have cp29 : zCp 55 m0 m23 (14 * f - 14) (2 * i - 14 + 1) 14 := by rw [hm23]; exact zCp_s (t := (2 * i)) cp19 (by omega) (by omega) (by omega) rfl
        have cp30 : zCp 56 m0 m23 (728 * f - 728) (104 * i - 728) 728 := by rw [hm23]; exact cp20
        have cp31 : zCp 57 m0 m23 (7 * f - 7) (i - 7 + 1) 7 := by rw [hm23]; exact cp21
        have b32 : 0 ≤ m23.1 55 0 (((2 * i) + 1).toNat) ∧ m23.1 55 0 (((2 * i) + 1).toNat) ≤ 1 := hGm23.1 55 _ rfl _ _
        refine ww_go 18 (pc' := 144) (L' := [(0, .inr (.inr (.inl (some (34, 0))))), (1, .inl f), (2, .inl i)]) (st' := []) (m' := wuI m23 55 0 (((2 * (i - 7)) + 1).toNat) (m23.1 55 0 (((2 * i) + 1).toNat))) (o := some ((0 < 1) ∧ (0 < 1) ∧ (0 < 1 ∧ 0 ≤ (2 * i) + 1 ∧ (2 * i) + 1 < ((112 : Nat) : Int)) ∧ (0 < 1 ∧ 0 ≤ (2 * (i - 7)) + 1 ∧ (2 * (i - 7)) + 1 < ((112 : Nat) : Int) ∧ 0 ≤ m23.1 55 0 (((2 * i) + 1).toNat) ∧ m23.1 55 0 (((2 * i) + 1).toNat) ≤ 1))) rfl (show (0 < 1) ∧ (0 < 1) ∧ (0 < 1 ∧ 0 ≤ (2 * i) + 1 ∧ (2 * i) + 1 < ((112 : Nat) : Int)) ∧ (0 < 1 ∧ 0 ≤ (2 * (i - 7)) + 1 ∧ (2 * (i - 7)) + 1 < ((112 : Nat) : Int) ∧ 0 ≤ m23.1 55 0 (((2 * i) + 1).toNat) ∧ m23.1 55 0 (((2 * i) + 1).toNat) ≤ 1) from by omega) ?_
        obtain ⟨m33, hm33⟩ : ∃ zq9 : wm, zq9 = wuI m23 55 0 (((2 * (i - 7)) + 1).toNat) (m23.1 55 0 (((2 * i) + 1).toNat)) := ⟨_, rfl⟩
        rw [← hm33]
        have hGm33 : zB c m33 := by rw [hm33]; exact zB_wI rfl (show 0 ≤ m23.1 55 0 (((2 * i) + 1).toNat) ∧ m23.1 55 0 (((2 * i) + 1).toNat) ≤ 1 from by omega) hGm23
        have hFm33 : zfr (fun k i j => (k = 50) ∨ (k = 51) ∨ (k = 52) ∨ (k = 53) ∨ (k = 54) ∨ (k = 57) ∨ (k = 55) ∨ (k = 56) ∨ (k = 58)) m0 m33 := by rw [hm33]; exact zfr_wI hFm23 (show (55 = 50) ∨ (55 = 51) ∨ (55 = 52) ∨ (55 = 53) ∨ (55 = 54) ∨ (55 = 57) ∨ (55 = 55) ∨ (55 = 56) ∨ (55 = 58) from Or.inr (Or.inr (Or.inr (Or.inr (Or.inr (Or.inr (Or.inl rfl)))))))
        have s34 : m33.1 55 0 (((2 * (i - 7)) + 1).toNat) = m23.1 55 0 (((2 * i) + 1).toNat) := by rw [hm33]; exact wuI_self
        have cp35 : zCp 51 m0 m33 (f - 1) (f) 1 := by rw [hm33]; exact cp25
        have cp36 : zCp 52 m0 m33 (f - 1) (f) 1 := by rw [hm33]; exact cp26
        have cp37 : zCp 53 m0 m33 (f - 1) (f) 1 := by rw [hm33]; exact cp27
        have cp38 : zCp 54 m0 m33 (7 * f - 7) (i - 7 + 1) 7 := by rw [hm33]; exact cp28
        have cp39 : zCp 55 m0 m33 (14 * f - 14) (2 * i - 14 + 1 + 1) 14 := by rw [hm33]; exact zCp_s (t := ((2 * i) + 1)) cp29 (by omega) (by omega) (by omega) rfl
        have cp40 : zCp 56 m0 m33 (728 * f - 728) (104 * i - 728) 728 := by rw [hm33]; exact cp30
        have cp41 : zCp 57 m0 m33 (7 * f - 7) (i - 7 + 1) 7 := by rw [hm33]; exact cp31
        refine ww_go 2 (pc' := 146) (L' := [(3, .inl 0), (0, .inr (.inr (.inl (some (34, 0))))), (1, .inl f), (2, .inl i)]) (st' := []) (m' := m33) (o := none) rfl trivial ?_
        refine ww_sub (L := [(0, .inr (.inr (.inl (some (34, 0))))), (1, .inl f), (2, .inl i), (3, .inl 0)]) ⟨rfl, rfl, rfl, rfl, trivial⟩ rfl rfl ?_
        exact (ih _ (by omega)).2 i 0 m33 rfl (zB_mono hGm33 (by omega)) hFm33 (by omega) (by exact zCp_hi cp35 (by omega)) (by exact zCp_hi cp36 (by omega)) (by exact zCp_hi cp37 (by omega)) (by exact zCp_hi cp38 (by omega)) (by exact zCp_hi cp39 (by omega)) (by exact zCp_hi cp40 (by omega)) (by exact zCp_hi cp41 (by omega))
    · intro i k m hd hGm hFm hi q51 q52 q53 q54 q55 q56 q57
      refine ww_go 2 (pc' := 149) (L' := [(0, .inr (.inr (.inl (some (34, 0))))), (1, .inl f), (2, .inl i), (3, .inl k)]) (st' := [.inl 104, .inl k]) (m' := m) (o := none) rfl trivial ?_
      refine ww_ic (t := 183) rfl rfl (by omega) (fun (h1 : 104 ≤ k) => ?_) (fun (h1 : ¬ (104 ≤ k)) => ?_)
      · show wW (zK sc) zM244 183 [(0, .inr (.inr (.inl (some (34, 0))))), (1, .inl f), (2, .inl i), (3, .inl k)] [] _ _ _
        refine ww_go 2 (pc' := 61) (L' := [(2, .inl (i + 1)), (0, .inr (.inr (.inl (some (34, 0))))), (1, .inl f), (3, .inl k)]) (st' := []) (m' := m) (o := none) rfl trivial ?_
        refine ww_sub (L := [(0, .inr (.inr (.inl (some (34, 0))))), (1, .inl f), (2, .inl (i + 1))]) ⟨rfl, rfl, rfl, trivial⟩ rfl rfl ?_
        exact (ih _ (by omega)).1 (i + 1) m rfl (zB_mono hGm (by omega)) hFm (by omega) (by exact zCp_hi q51 (by omega)) (by exact zCp_hi q52 (by omega)) (by exact zCp_hi q53 (by omega)) (by exact zCp_hi q54 (by omega)) (by exact zCp_hi q55 (by omega)) (by exact zCp_hi q56 (by omega)) (by exact zCp_hi q57 (by omega))
      · show wW (zK sc) zM244 152 [(0, .inr (.inr (.inl (some (34, 0))))), (1, .inl f), (2, .inl i), (3, .inl k)] [] _ _ _
        have b2 : 0 ≤ m.1 56 0 (((104 * i) + k).toNat) ∧ m.1 56 0 (((104 * i) + k).toNat) ≤ 255 := hGm.1 56 _ rfl _ _
        refine ww_go 18 (pc' := 177) (L' := [(0, .inr (.inr (.inl (some (34, 0))))), (1, .inl f), (2, .inl i), (3, .inl k)]) (st' := []) (m' := wuI m 56 0 (((104 * (i - 7)) + k).toNat) (m.1 56 0 (((104 * i) + k).toNat))) (o := some ((0 < 1) ∧ (0 < 1) ∧ (0 < 1 ∧ 0 ≤ (104 * i) + k ∧ (104 * i) + k < ((5824 : Nat) : Int)) ∧ (0 < 1 ∧ 0 ≤ (104 * (i - 7)) + k ∧ (104 * (i - 7)) + k < ((5824 : Nat) : Int)))) rfl (show (0 < 1) ∧ (0 < 1) ∧ (0 < 1 ∧ 0 ≤ (104 * i) + k ∧ (104 * i) + k < ((5824 : Nat) : Int)) ∧ (0 < 1 ∧ 0 ≤ (104 * (i - 7)) + k ∧ (104 * (i - 7)) + k < ((5824 : Nat) : Int)) from by omega) ?_
        obtain ⟨m3, hm3⟩ : ∃ zq9 : wm, zq9 = wuI m 56 0 (((104 * (i - 7)) + k).toNat) (m.1 56 0 (((104 * i) + k).toNat)) := ⟨_, rfl⟩
        rw [← hm3]
        have hGm3 : zB c m3 := by rw [hm3]; exact zB_wI rfl (show 0 ≤ m.1 56 0 (((104 * i) + k).toNat) ∧ m.1 56 0 (((104 * i) + k).toNat) ≤ 255 from by omega) hGm
        have hFm3 : zfr (fun k i j => (k = 50) ∨ (k = 51) ∨ (k = 52) ∨ (k = 53) ∨ (k = 54) ∨ (k = 57) ∨ (k = 55) ∨ (k = 56) ∨ (k = 58)) m0 m3 := by rw [hm3]; exact zfr_wI hFm (show (56 = 50) ∨ (56 = 51) ∨ (56 = 52) ∨ (56 = 53) ∨ (56 = 54) ∨ (56 = 57) ∨ (56 = 55) ∨ (56 = 56) ∨ (56 = 58) from Or.inr (Or.inr (Or.inr (Or.inr (Or.inr (Or.inr (Or.inr (Or.inl rfl))))))))
        have s4 : m3.1 56 0 (((104 * (i - 7)) + k).toNat) = m.1 56 0 (((104 * i) + k).toNat) := by rw [hm3]; exact wuI_self
        have cp5 : zCp 51 m0 m3 (f - 1) (f) 1 := by rw [hm3]; exact q51
        have cp6 : zCp 52 m0 m3 (f - 1) (f) 1 := by rw [hm3]; exact q52
        have cp7 : zCp 53 m0 m3 (f - 1) (f) 1 := by rw [hm3]; exact q53
        have cp8 : zCp 54 m0 m3 (7 * f - 7) (i - 6) 7 := by rw [hm3]; exact q54
        have cp9 : zCp 55 m0 m3 (14 * f - 14) (2 * i - 12) 14 := by rw [hm3]; exact q55
        have cp10 : zCp 56 m0 m3 (728 * f - 728) (104 * i - 728 + k + 1) 728 := by rw [hm3]; exact zCp_s (t := ((104 * i) + k)) q56 (by omega) (by omega) (by omega) rfl
        have cp11 : zCp 57 m0 m3 (7 * f - 7) (i - 6) 7 := by rw [hm3]; exact q57
        refine ww_go 2 (pc' := 146) (L' := [(3, .inl (k + 1)), (0, .inr (.inr (.inl (some (34, 0))))), (1, .inl f), (2, .inl i)]) (st' := []) (m' := m3) (o := none) rfl trivial ?_
        refine ww_sub (L := [(0, .inr (.inr (.inl (some (34, 0))))), (1, .inl f), (2, .inl i), (3, .inl (k + 1))]) ⟨rfl, rfl, rfl, rfl, trivial⟩ rfl rfl ?_
        exact (ih _ (by omega)).2 i (k + 1) m3 rfl (zB_mono hGm3 (by omega)) hFm3 (by omega) (by exact zCp_hi cp5 (by omega)) (by exact zCp_hi cp6 (by omega)) (by exact zCp_hi cp7 (by omega)) (by exact zCp_hi cp8 (by omega)) (by exact zCp_hi cp9 (by omega)) (by exact zCp_hi cp10 (by omega)) (by exact zCp_hi cp11 (by omega))
set_option maxRecDepth 8000 in
/-- Mo.shift -/
theorem zs244 {sc : xSc} {n : Nat × Nat} {m0 : wm} {c : Int} (hc : 0 ≤ c ∧ c ≤ 1000000) (f : Int) (hG : zB c m0) (hR : zRI m0) (h0 : 1 ≤ f ∧ f ≤ 7) : wX (zK sc) 244 [.inr (.inr (.inl (some (34, 0)))), .inl f] n m0 (wr (fun vv n1 m1 => vv = none ∧ n = n1 ∧ zB c m1 ∧ zfr (fun k i j => (k = 50) ∨ (k = 51) ∨ (k = 52) ∨ (k = 53) ∨ (k = 54) ∨ (k = 57) ∨ (k = 55) ∨ (k = 56) ∨ (k = 58)) m0 m1 ∧ (zRI m1 ∧ (True)))) := by
  refine wX_of (N := zM244) rfl (Nat.le_of_ble_eq_true rfl) ?_
  show wW (zK sc) zM244 0 [(0, .inr (.inr (.inl (some (34, 0))))), (1, .inl f)] [] n m0 _
  have hF : zfr (fun k i j => (k = 50) ∨ (k = 51) ∨ (k = 52) ∨ (k = 53) ∨ (k = 54) ∨ (k = 57) ∨ (k = 55) ∨ (k = 56) ∨ (k = 58)) m0 m0 := zfr_rf
  have b1 : 0 ≤ m0.1 50 0 f.toNat ∧ m0.1 50 0 f.toNat ≤ 65535 := hG.1 50 _ rfl _ _
  refine ww_go 10 (pc' := 14) (L' := [(0, .inr (.inr (.inl (some (34, 0))))), (1, .inl f)]) (st' := []) (m' := wuI m0 50 0 ((f - 1).toNat) (m0.1 50 0 f.toNat)) (o := some ((0 < 1) ∧ (0 < 1) ∧ (0 < 1 ∧ 0 ≤ f ∧ f < ((8 : Nat) : Int)) ∧ (0 < 1 ∧ 0 ≤ f - 1 ∧ f - 1 < ((8 : Nat) : Int)))) rfl (show (0 < 1) ∧ (0 < 1) ∧ (0 < 1 ∧ 0 ≤ f ∧ f < ((8 : Nat) : Int)) ∧ (0 < 1 ∧ 0 ≤ f - 1 ∧ f - 1 < ((8 : Nat) : Int)) from by omega) ?_
  obtain ⟨m2, hm2⟩ : ∃ zq9 : wm, zq9 = wuI m0 50 0 ((f - 1).toNat) (m0.1 50 0 f.toNat) := ⟨_, rfl⟩
  rw [← hm2]
  have hGm2 : zB c m2 := by rw [hm2]; exact zB_wI rfl (show 0 ≤ m0.1 50 0 f.toNat ∧ m0.1 50 0 f.toNat ≤ 65535 from by omega) hG
  have hFm2 : zfr (fun k i j => (k = 50) ∨ (k = 51) ∨ (k = 52) ∨ (k = 53) ∨ (k = 54) ∨ (k = 57) ∨ (k = 55) ∨ (k = 56) ∨ (k = 58)) m0 m2 := by rw [hm2]; exact zfr_wI hF (show (50 = 50) ∨ (50 = 51) ∨ (50 = 52) ∨ (50 = 53) ∨ (50 = 54) ∨ (50 = 57) ∨ (50 = 55) ∨ (50 = 56) ∨ (50 = 58) from Or.inl rfl)
  have s3 : m2.1 50 0 ((f - 1).toNat) = m0.1 50 0 f.toNat := by rw [hm2]; exact wuI_self
  have hRm2 : zRI m2 := by rw [hm2]; exact zRI_wo (by decide) hR
  have cp4 : zCp 51 m0 m2 (f - 1) (f - 1) 1 := by rw [hm2]; exact (zCp_0 : zCp 51 m0 m0 (f - 1) (f - 1) 1)
  have cp5 : zCp 52 m0 m2 (f - 1) (f - 1) 1 := by rw [hm2]; exact (zCp_0 : zCp 52 m0 m0 (f - 1) (f - 1) 1)
  have cp6 : zCp 53 m0 m2 (f - 1) (f - 1) 1 := by rw [hm2]; exact (zCp_0 : zCp 53 m0 m0 (f - 1) (f - 1) 1)
  have cp7 : zCp 54 m0 m2 (7 * f - 7) (7 * f - 7) 7 := by rw [hm2]; exact (zCp_0 : zCp 54 m0 m0 (7 * f - 7) (7 * f - 7) 7)
  have cp8 : zCp 55 m0 m2 (14 * f - 14) (14 * f - 14) 14 := by rw [hm2]; exact (zCp_0 : zCp 55 m0 m0 (14 * f - 14) (14 * f - 14) 14)
  have cp9 : zCp 56 m0 m2 (728 * f - 728) (728 * f - 728) 728 := by rw [hm2]; exact (zCp_0 : zCp 56 m0 m0 (728 * f - 728) (728 * f - 728) 728)
  have cp10 : zCp 57 m0 m2 (7 * f - 7) (7 * f - 7) 7 := by rw [hm2]; exact (zCp_0 : zCp 57 m0 m0 (7 * f - 7) (7 * f - 7) 7)
  have b11 : 0 ≤ m2.1 51 0 f.toNat ∧ m2.1 51 0 f.toNat ≤ 1 := hGm2.1 51 _ rfl _ _
  refine ww_go 10 (pc' := 28) (L' := [(0, .inr (.inr (.inl (some (34, 0))))), (1, .inl f)]) (st' := []) (m' := wuI m2 51 0 ((f - 1).toNat) (m2.1 51 0 f.toNat)) (o := some ((0 < 1) ∧ (0 < 1) ∧ (0 < 1 ∧ 0 ≤ f ∧ f < ((8 : Nat) : Int)) ∧ (0 < 1 ∧ 0 ≤ f - 1 ∧ f - 1 < ((8 : Nat) : Int) ∧ 0 ≤ m2.1 51 0 f.toNat ∧ m2.1 51 0 f.toNat ≤ 1))) rfl (show (0 < 1) ∧ (0 < 1) ∧ (0 < 1 ∧ 0 ≤ f ∧ f < ((8 : Nat) : Int)) ∧ (0 < 1 ∧ 0 ≤ f - 1 ∧ f - 1 < ((8 : Nat) : Int) ∧ 0 ≤ m2.1 51 0 f.toNat ∧ m2.1 51 0 f.toNat ≤ 1) from by omega) ?_
  obtain ⟨m12, hm12⟩ : ∃ zq9 : wm, zq9 = wuI m2 51 0 ((f - 1).toNat) (m2.1 51 0 f.toNat) := ⟨_, rfl⟩
  rw [← hm12]
  have hGm12 : zB c m12 := by rw [hm12]; exact zB_wI rfl (show 0 ≤ m2.1 51 0 f.toNat ∧ m2.1 51 0 f.toNat ≤ 1 from by omega) hGm2
  have hFm12 : zfr (fun k i j => (k = 50) ∨ (k = 51) ∨ (k = 52) ∨ (k = 53) ∨ (k = 54) ∨ (k = 57) ∨ (k = 55) ∨ (k = 56) ∨ (k = 58)) m0 m12 := by rw [hm12]; exact zfr_wI hFm2 (show (51 = 50) ∨ (51 = 51) ∨ (51 = 52) ∨ (51 = 53) ∨ (51 = 54) ∨ (51 = 57) ∨ (51 = 55) ∨ (51 = 56) ∨ (51 = 58) from Or.inr (Or.inl rfl))
  have s13 : m12.1 51 0 ((f - 1).toNat) = m2.1 51 0 f.toNat := by rw [hm12]; exact wuI_self
  have cp14 : zCp 51 m0 m12 (f - 1) (f - 1 + 1) 1 := by rw [hm12]; exact zCp_s (t := f) cp4 (by omega) (by omega) (by omega) rfl
  have cp15 : zCp 52 m0 m12 (f - 1) (f - 1) 1 := by rw [hm12]; exact cp5
  have cp16 : zCp 53 m0 m12 (f - 1) (f - 1) 1 := by rw [hm12]; exact cp6
  have cp17 : zCp 54 m0 m12 (7 * f - 7) (7 * f - 7) 7 := by rw [hm12]; exact cp7
  have cp18 : zCp 55 m0 m12 (14 * f - 14) (14 * f - 14) 14 := by rw [hm12]; exact cp8
  have cp19 : zCp 56 m0 m12 (728 * f - 728) (728 * f - 728) 728 := by rw [hm12]; exact cp9
  have cp20 : zCp 57 m0 m12 (7 * f - 7) (7 * f - 7) 7 := by rw [hm12]; exact cp10
  have b21 : 0 ≤ m12.1 52 0 f.toNat ∧ m12.1 52 0 f.toNat ≤ 6 := hGm12.1 52 _ rfl _ _
  refine ww_go 10 (pc' := 42) (L' := [(0, .inr (.inr (.inl (some (34, 0))))), (1, .inl f)]) (st' := []) (m' := wuI m12 52 0 ((f - 1).toNat) (m12.1 52 0 f.toNat)) (o := some ((0 < 1) ∧ (0 < 1) ∧ (0 < 1 ∧ 0 ≤ f ∧ f < ((8 : Nat) : Int)) ∧ (0 < 1 ∧ 0 ≤ f - 1 ∧ f - 1 < ((8 : Nat) : Int)))) rfl (show (0 < 1) ∧ (0 < 1) ∧ (0 < 1 ∧ 0 ≤ f ∧ f < ((8 : Nat) : Int)) ∧ (0 < 1 ∧ 0 ≤ f - 1 ∧ f - 1 < ((8 : Nat) : Int)) from by omega) ?_
  obtain ⟨m22, hm22⟩ : ∃ zq9 : wm, zq9 = wuI m12 52 0 ((f - 1).toNat) (m12.1 52 0 f.toNat) := ⟨_, rfl⟩
  rw [← hm22]
  have hGm22 : zB c m22 := by rw [hm22]; exact zB_wI rfl (show 0 ≤ m12.1 52 0 f.toNat ∧ m12.1 52 0 f.toNat ≤ 6 from by omega) hGm12
  have hFm22 : zfr (fun k i j => (k = 50) ∨ (k = 51) ∨ (k = 52) ∨ (k = 53) ∨ (k = 54) ∨ (k = 57) ∨ (k = 55) ∨ (k = 56) ∨ (k = 58)) m0 m22 := by rw [hm22]; exact zfr_wI hFm12 (show (52 = 50) ∨ (52 = 51) ∨ (52 = 52) ∨ (52 = 53) ∨ (52 = 54) ∨ (52 = 57) ∨ (52 = 55) ∨ (52 = 56) ∨ (52 = 58) from Or.inr (Or.inr (Or.inl rfl)))
  have s23 : m22.1 52 0 ((f - 1).toNat) = m12.1 52 0 f.toNat := by rw [hm22]; exact wuI_self
  have cp24 : zCp 51 m0 m22 (f - 1) (f - 1 + 1) 1 := by rw [hm22]; exact cp14
  have cp25 : zCp 52 m0 m22 (f - 1) (f - 1 + 1) 1 := by rw [hm22]; exact zCp_s (t := f) cp15 (by omega) (by omega) (by omega) rfl
  have cp26 : zCp 53 m0 m22 (f - 1) (f - 1) 1 := by rw [hm22]; exact cp16
  have cp27 : zCp 54 m0 m22 (7 * f - 7) (7 * f - 7) 7 := by rw [hm22]; exact cp17
  have cp28 : zCp 55 m0 m22 (14 * f - 14) (14 * f - 14) 14 := by rw [hm22]; exact cp18
  have cp29 : zCp 56 m0 m22 (728 * f - 728) (728 * f - 728) 728 := by rw [hm22]; exact cp19
  have cp30 : zCp 57 m0 m22 (7 * f - 7) (7 * f - 7) 7 := by rw [hm22]; exact cp20
  have b31 : 0 ≤ m22.1 53 0 f.toNat ∧ m22.1 53 0 f.toNat ≤ 2 := hGm22.1 53 _ rfl _ _
  refine ww_go 10 (pc' := 56) (L' := [(0, .inr (.inr (.inl (some (34, 0))))), (1, .inl f)]) (st' := []) (m' := wuI m22 53 0 ((f - 1).toNat) (m22.1 53 0 f.toNat)) (o := some ((0 < 1) ∧ (0 < 1) ∧ (0 < 1 ∧ 0 ≤ f ∧ f < ((8 : Nat) : Int)) ∧ (0 < 1 ∧ 0 ≤ f - 1 ∧ f - 1 < ((8 : Nat) : Int)))) rfl (show (0 < 1) ∧ (0 < 1) ∧ (0 < 1 ∧ 0 ≤ f ∧ f < ((8 : Nat) : Int)) ∧ (0 < 1 ∧ 0 ≤ f - 1 ∧ f - 1 < ((8 : Nat) : Int)) from by omega) ?_
  obtain ⟨m32, hm32⟩ : ∃ zq9 : wm, zq9 = wuI m22 53 0 ((f - 1).toNat) (m22.1 53 0 f.toNat) := ⟨_, rfl⟩
  rw [← hm32]
  have hGm32 : zB c m32 := by rw [hm32]; exact zB_wI rfl (show 0 ≤ m22.1 53 0 f.toNat ∧ m22.1 53 0 f.toNat ≤ 2 from by omega) hGm22
  have hFm32 : zfr (fun k i j => (k = 50) ∨ (k = 51) ∨ (k = 52) ∨ (k = 53) ∨ (k = 54) ∨ (k = 57) ∨ (k = 55) ∨ (k = 56) ∨ (k = 58)) m0 m32 := by rw [hm32]; exact zfr_wI hFm22 (show (53 = 50) ∨ (53 = 51) ∨ (53 = 52) ∨ (53 = 53) ∨ (53 = 54) ∨ (53 = 57) ∨ (53 = 55) ∨ (53 = 56) ∨ (53 = 58) from Or.inr (Or.inr (Or.inr (Or.inl rfl))))
  have s33 : m32.1 53 0 ((f - 1).toNat) = m22.1 53 0 f.toNat := by rw [hm32]; exact wuI_self
  have cp34 : zCp 51 m0 m32 (f - 1) (f - 1 + 1) 1 := by rw [hm32]; exact cp24
  have cp35 : zCp 52 m0 m32 (f - 1) (f - 1 + 1) 1 := by rw [hm32]; exact cp25
  have cp36 : zCp 53 m0 m32 (f - 1) (f - 1 + 1) 1 := by rw [hm32]; exact zCp_s (t := f) cp26 (by omega) (by omega) (by omega) rfl
  have cp37 : zCp 54 m0 m32 (7 * f - 7) (7 * f - 7) 7 := by rw [hm32]; exact cp27
  have cp38 : zCp 55 m0 m32 (14 * f - 14) (14 * f - 14) 14 := by rw [hm32]; exact cp28
  have cp39 : zCp 56 m0 m32 (728 * f - 728) (728 * f - 728) 728 := by rw [hm32]; exact cp29
  have cp40 : zCp 57 m0 m32 (7 * f - 7) (7 * f - 7) 7 := by rw [hm32]; exact cp30
  refine ww_go 4 (pc' := 61) (L' := [(2, .inl (7 * f)), (0, .inr (.inr (.inl (some (34, 0))))), (1, .inl f)]) (st' := []) (m' := m32) (o := none) rfl trivial ?_
  refine ww_sub (L := [(0, .inr (.inr (.inl (some (34, 0))))), (1, .inl f), (2, .inl (7 * f))]) ⟨rfl, rfl, rfl, trivial⟩ rfl rfl ?_
  exact (zs244_l61 hc f hG hR h0 _).1 (7 * f) m32 rfl (zB_mono hGm32 (by omega)) hFm32 (by omega) (by exact zCp_hi cp34 (by omega)) (by exact zCp_hi cp35 (by omega)) (by exact zCp_hi cp36 (by omega)) (by exact zCp_hi cp37 (by omega)) (by exact zCp_hi cp38 (by omega)) (by exact zCp_hi cp39 (by omega)) (by exact zCp_hi cp40 (by omega))
set_option maxRecDepth 8000 in
theorem zs206_l25 {sc : xSc} {n : Nat × Nat} {m0 : wm} {c : Int} (hc : 0 ≤ c ∧ c ≤ 1000000) (f : Int) (x : Int) (hG : zB c m0) (hR : zRI m0) (h0 : 0 ≤ f ∧ f ≤ 1 ∧ 1 ≤ x ∧ x ≤ 65535) : ∀ (d : Nat), ∀ (a : Int) (m : wm), (8 - a).toNat = d → zB c m → zfr (fun k i j => (k = 50) ∨ (k = 51) ∨ (k = 52) ∨ (k = 53) ∨ (k = 54) ∨ (k = 57) ∨ (k = 55) ∨ (k = 56) ∨ (k = 58) ∨ (k = 58) ∨ (k = 59) ∨ (k = 60) ∨ (k = 61) ∨ (k = 34 ∧ j = 30)) m0 m → zRI m → (4 * f ≤ a ∧ a ≤ 4 * f + 3) →  wW (zK sc) zM206 25 [(0, .inr (.inr (.inl (some (34, 0))))), (1, .inl f), (2, .inl x), (4, .inl a)] [] n m (wr (fun vv n1 m1 => ∃ r : Int, vv = some (.inl r) ∧ n = n1 ∧ zB c m1 ∧ zfr (fun k i j => (k = 50) ∨ (k = 51) ∨ (k = 52) ∨ (k = 53) ∨ (k = 54) ∨ (k = 57) ∨ (k = 55) ∨ (k = 56) ∨ (k = 58) ∨ (k = 58) ∨ (k = 59) ∨ (k = 60) ∨ (k = 61) ∨ (k = 34 ∧ j = 30)) m0 m1 ∧ (zRI m1 ∧ (4 * f ≤ r ∧ r ≤ 4 * f + 3)))) := by
  intro d
  induction d using Nat.strongRecOn with
  | ind d ih =>
    intro a m hd hGm hFm hRm hi
    refine ww_go 6 (pc' := 32) (L' := [(0, .inr (.inr (.inl (some (34, 0))))), (1, .inl f), (2, .inl x), (4, .inl a)]) (st' := [.inl ((4 * f) + 3), .inl a]) (m' := m) (o := none) rfl trivial ?_
    refine ww_ic (t := 60) rfl rfl (by omega) (fun (h1 : (4 * f) + 3 ≤ a) => ?_) (fun (h1 : ¬ ((4 * f) + 3 ≤ a)) => ?_)
    · show wW (zK sc) zM206 60 [(0, .inr (.inr (.inl (some (34, 0))))), (1, .inl f), (2, .inl x), (4, .inl a)] [] _ _ _
      refine ww_go 5 (pc' := 68) (L' := [(0, .inr (.inr (.inl (some (34, 0))))), (1, .inl f), (2, .inl x), (4, .inl a)]) (st' := []) (m' := wuI m 50 0 a.toNat x) (o := some ((0 < 1) ∧ (0 < 1 ∧ 0 ≤ a ∧ a < ((8 : Nat) : Int)))) rfl (show (0 < 1) ∧ (0 < 1 ∧ 0 ≤ a ∧ a < ((8 : Nat) : Int)) from by omega) ?_
      obtain ⟨m2, hm2⟩ : ∃ zq9 : wm, zq9 = wuI m 50 0 a.toNat x := ⟨_, rfl⟩
      rw [← hm2]
      have hGm2 : zB c m2 := by rw [hm2]; exact zB_wI rfl (show 0 ≤ x ∧ x ≤ 65535 from by omega) hGm
      have hFm2 : zfr (fun k i j => (k = 50) ∨ (k = 51) ∨ (k = 52) ∨ (k = 53) ∨ (k = 54) ∨ (k = 57) ∨ (k = 55) ∨ (k = 56) ∨ (k = 58) ∨ (k = 58) ∨ (k = 59) ∨ (k = 60) ∨ (k = 61) ∨ (k = 34 ∧ j = 30)) m0 m2 := by rw [hm2]; exact zfr_wI hFm (show (50 = 50) ∨ (50 = 51) ∨ (50 = 52) ∨ (50 = 53) ∨ (50 = 54) ∨ (50 = 57) ∨ (50 = 55) ∨ (50 = 56) ∨ (50 = 58) ∨ (50 = 58) ∨ (50 = 59) ∨ (50 = 60) ∨ (50 = 61) ∨ (50 = 34 ∧ a.toNat = 30) from Or.inl rfl)
      have s3 : m2.1 50 0 a.toNat = x := by rw [hm2]; exact wuI_self
      have hRm2 : zRI m2 := by rw [hm2]; exact zRI_wo (by decide) hRm
      refine ww_go 1 (pc' := 70) (L' := [(0, .inr (.inr (.inl (some (34, 0))))), (1, .inl f), (2, .inl x), (4, .inl a)]) (st' := [.inl a]) (m' := m2) (o := none) rfl trivial ?_
      exact ww_rI rfl rfl ⟨_, rfl, rfl, zB_mono hGm2 (by omega), hFm2, ⟨hRm2, by omega⟩⟩
    · show wW (zK sc) zM206 35 [(0, .inr (.inr (.inl (some (34, 0))))), (1, .inl f), (2, .inl x), (4, .inl a)] [] _ _ _
      have b4 : 0 ≤ m.1 50 0 ((a + 1).toNat) ∧ m.1 50 0 ((a + 1).toNat) ≤ 65535 := hGm.1 50 _ rfl _ _
      refine ww_go 7 (pc' := 45) (L' := [(0, .inr (.inr (.inl (some (34, 0))))), (1, .inl f), (2, .inl x), (4, .inl a)]) (st' := [.inl x, .inl (m.1 50 0 ((a + 1).toNat))]) (m' := m) (o := some ((0 < 1) ∧ (0 < 1 ∧ 0 ≤ a + 1 ∧ a + 1 < ((8 : Nat) : Int)))) rfl (show (0 < 1) ∧ (0 < 1 ∧ 0 ≤ a + 1 ∧ a + 1 < ((8 : Nat) : Int)) from by omega) ?_
      refine ww_ic (t := 60) rfl rfl (by omega) (fun (h5 : x ≤ m.1 50 0 ((a + 1).toNat)) => ?_) (fun (h5 : ¬ (x ≤ m.1 50 0 ((a + 1).toNat))) => ?_)
      · show wW (zK sc) zM206 60 [(0, .inr (.inr (.inl (some (34, 0))))), (1, .inl f), (2, .inl x), (4, .inl a)] [] _ _ _
        refine ww_go 5 (pc' := 68) (L' := [(0, .inr (.inr (.inl (some (34, 0))))), (1, .inl f), (2, .inl x), (4, .inl a)]) (st' := []) (m' := wuI m 50 0 a.toNat x) (o := some ((0 < 1) ∧ (0 < 1 ∧ 0 ≤ a ∧ a < ((8 : Nat) : Int)))) rfl (show (0 < 1) ∧ (0 < 1 ∧ 0 ≤ a ∧ a < ((8 : Nat) : Int)) from by omega) ?_
        obtain ⟨m6, hm6⟩ : ∃ zq9 : wm, zq9 = wuI m 50 0 a.toNat x := ⟨_, rfl⟩
        rw [← hm6]
        have hGm6 : zB c m6 := by rw [hm6]; exact zB_wI rfl (show 0 ≤ x ∧ x ≤ 65535 from by omega) hGm
        have hFm6 : zfr (fun k i j => (k = 50) ∨ (k = 51) ∨ (k = 52) ∨ (k = 53) ∨ (k = 54) ∨ (k = 57) ∨ (k = 55) ∨ (k = 56) ∨ (k = 58) ∨ (k = 58) ∨ (k = 59) ∨ (k = 60) ∨ (k = 61) ∨ (k = 34 ∧ j = 30)) m0 m6 := by rw [hm6]; exact zfr_wI hFm (show (50 = 50) ∨ (50 = 51) ∨ (50 = 52) ∨ (50 = 53) ∨ (50 = 54) ∨ (50 = 57) ∨ (50 = 55) ∨ (50 = 56) ∨ (50 = 58) ∨ (50 = 58) ∨ (50 = 59) ∨ (50 = 60) ∨ (50 = 61) ∨ (50 = 34 ∧ a.toNat = 30) from Or.inl rfl)
        have s7 : m6.1 50 0 a.toNat = x := by rw [hm6]; exact wuI_self
        have hRm6 : zRI m6 := by rw [hm6]; exact zRI_wo (by decide) hRm
        refine ww_go 1 (pc' := 70) (L' := [(0, .inr (.inr (.inl (some (34, 0))))), (1, .inl f), (2, .inl x), (4, .inl a)]) (st' := [.inl a]) (m' := m6) (o := none) rfl trivial ?_
        exact ww_rI rfl rfl ⟨_, rfl, rfl, zB_mono hGm6 (by omega), hFm6, ⟨hRm6, by omega⟩⟩
      · show wW (zK sc) zM206 48 [(0, .inr (.inr (.inl (some (34, 0))))), (1, .inl f), (2, .inl x), (4, .inl a)] [] _ _ _
        refine ww_go 3 (pc' := 54) (L' := [(4, .inl (a + 1)), (0, .inr (.inr (.inl (some (34, 0))))), (1, .inl f), (2, .inl x)]) (st' := [.inl (a + 1), .inr (.inr (.inl (some (34, 0))))]) (m' := m) (o := none) rfl trivial ?_
        refine ww_call (vs := [.inr (.inr (.inl (some (34, 0)))), .inl (a + 1)]) (r := []) (p := 0 < 1) rfl rfl rfl rfl (show 0 < 1 from by omega) (zs244 (c := c) (by omega) (a + 1) hGm hRm (by omega)) ?_
        rintro _ _ m10 ⟨rfl, rfl, hGm10, hEm10, hRm10, hr9⟩
        have hFm10 : zfr (fun k i j => (k = 50) ∨ (k = 51) ∨ (k = 52) ∨ (k = 53) ∨ (k = 54) ∨ (k = 57) ∨ (k = 55) ∨ (k = 56) ∨ (k = 58) ∨ (k = 58) ∨ (k = 59) ∨ (k = 60) ∨ (k = 61) ∨ (k = 34 ∧ j = 30)) m0 m10 := zfr_tr hFm hEm10 (fun k i j z => Or.elim z (fun z => Or.inl z) (fun z => Or.elim z (fun z => Or.inr (Or.inl z)) (fun z => Or.elim z (fun z => Or.inr (Or.inr (Or.inl z))) (fun z => Or.elim z (fun z => Or.inr (Or.inr (Or.inr (Or.inl z)))) (fun z => Or.elim z (fun z => Or.inr (Or.inr (Or.inr (Or.inr (Or.inl z))))) (fun z => Or.elim z (fun z => Or.inr (Or.inr (Or.inr (Or.inr (Or.inr (Or.inl z)))))) (fun z => Or.elim z (fun z => Or.inr (Or.inr (Or.inr (Or.inr (Or.inr (Or.inr (Or.inl z))))))) (fun z => Or.elim z (fun z => Or.inr (Or.inr (Or.inr (Or.inr (Or.inr (Or.inr (Or.inr (Or.inl z)))))))) (fun z => Or.inr (Or.inr (Or.inr (Or.inr (Or.inr (Or.inr (Or.inr (Or.inr (Or.inl z)))))))))))))))))
        show wW (zK sc) zM206 57 [(4, .inl (a + 1)), (0, .inr (.inr (.inl (some (34, 0))))), (1, .inl f), (2, .inl x)] [] _ _ _
        refine ww_go 1 (pc' := 25) (L' := [(4, .inl (a + 1)), (0, .inr (.inr (.inl (some (34, 0))))), (1, .inl f), (2, .inl x)]) (st' := []) (m' := m10) (o := none) rfl trivial ?_
        refine ww_sub (L := [(0, .inr (.inr (.inl (some (34, 0))))), (1, .inl f), (2, .inl x), (4, .inl (a + 1))]) ⟨rfl, rfl, rfl, rfl, trivial⟩ rfl rfl ?_
        exact (ih _ (by omega)) (a + 1) m10 rfl (zB_mono hGm10 (by omega)) hFm10 hRm10 (by omega)
set_option maxRecDepth 8000 in
/-- Mo.hears -/
theorem zs206 {sc : xSc} {n : Nat × Nat} {m0 : wm} {c : Int} (hc : 0 ≤ c ∧ c ≤ 1000000) (f : Int) (x : Int) (hG : zB c m0) (hR : zRI m0) (h0 : 0 ≤ f ∧ f ≤ 1 ∧ 1 ≤ x ∧ x ≤ 65535) : wX (zK sc) 206 [.inr (.inr (.inl (some (34, 0)))), .inl f, .inl x] n m0 (wr (fun vv n1 m1 => ∃ r : Int, vv = some (.inl r) ∧ n = n1 ∧ zB c m1 ∧ zfr (fun k i j => (k = 50) ∨ (k = 51) ∨ (k = 52) ∨ (k = 53) ∨ (k = 54) ∨ (k = 57) ∨ (k = 55) ∨ (k = 56) ∨ (k = 58) ∨ (k = 58) ∨ (k = 59) ∨ (k = 60) ∨ (k = 61) ∨ (k = 34 ∧ j = 30)) m0 m1 ∧ (zRI m1 ∧ (4 * f ≤ r ∧ r ≤ 4 * f + 3)))) := by
  refine wX_of (N := zM206) rfl (Nat.le_of_ble_eq_true rfl) ?_
  show wW (zK sc) zM206 0 [(0, .inr (.inr (.inl (some (34, 0))))), (1, .inl f), (2, .inl x)] [] n m0 _
  have hF : zfr (fun k i j => (k = 50) ∨ (k = 51) ∨ (k = 52) ∨ (k = 53) ∨ (k = 54) ∨ (k = 57) ∨ (k = 55) ∨ (k = 56) ∨ (k = 58) ∨ (k = 58) ∨ (k = 59) ∨ (k = 60) ∨ (k = 61) ∨ (k = 34 ∧ j = 30)) m0 m0 := zfr_rf
  refine ww_go 3 (pc' := 3) (L' := [(0, .inr (.inr (.inl (some (34, 0))))), (1, .inl f), (2, .inl x)]) (st' := [.inl x, .inl f, .inr (.inr (.inl (some (34, 0))))]) (m' := m0) (o := none) rfl trivial ?_
  refine ww_call (vs := [.inr (.inr (.inl (some (34, 0)))), .inl f, .inl x]) (r := []) (p := 0 < 1) rfl rfl rfl rfl (show 0 < 1 from by omega) (zs231 (c := c) (by omega) f x hG (by omega)) ?_
  rintro _ _ _ ⟨r1, rfl, rfl, rfl, hr2⟩
  show wW (zK sc) zM206 6 [(0, .inr (.inr (.inl (some (34, 0))))), (1, .inl f), (2, .inl x)] [.inl r1] _ _ _
  refine ww_go 2 (pc' := 8) (L' := [(3, .inl r1), (0, .inr (.inr (.inl (some (34, 0))))), (1, .inl f), (2, .inl x)]) (st' := [.inl r1]) (m' := m0) (o := none) rfl trivial ?_
  refine ww_if (t := 13) rfl rfl (by omega) (fun (h3 : r1 < 0) => ?_) (fun (h3 : ¬ (r1 < 0)) => ?_)
  · show wW (zK sc) zM206 13 [(3, .inl r1), (0, .inr (.inr (.inl (some (34, 0))))), (1, .inl f), (2, .inl x)] [] _ _ _
    refine ww_go 4 (pc' := 17) (L' := [(3, .inl r1), (0, .inr (.inr (.inl (some (34, 0))))), (1, .inl f), (2, .inl x)]) (st' := [.inl (4 * f), .inr (.inr (.inl (some (34, 0))))]) (m' := m0) (o := none) rfl trivial ?_
    refine ww_call (vs := [.inr (.inr (.inl (some (34, 0)))), .inl (4 * f)]) (r := []) (p := 0 < 1) rfl rfl rfl rfl (show 0 < 1 from by omega) (zs195 (c := c) (by omega) (4 * f) hG hR (by omega)) ?_
    rintro _ _ m6 ⟨rfl, rfl, hGm6, hEm6, hRm6, hr5⟩
    have hFm6 : zfr (fun k i j => (k = 50) ∨ (k = 51) ∨ (k = 52) ∨ (k = 53) ∨ (k = 54) ∨ (k = 57) ∨ (k = 55) ∨ (k = 56) ∨ (k = 58) ∨ (k = 58) ∨ (k = 59) ∨ (k = 60) ∨ (k = 61) ∨ (k = 34 ∧ j = 30)) m0 m6 := zfr_tr hF hEm6 (fun k i j z => Or.elim z (fun z => Or.inr (Or.inr (Or.inr (Or.inr (Or.inr (Or.inr (Or.inr (Or.inr (Or.inl z))))))))) (fun z => Or.elim z (fun z => Or.inr (Or.inr (Or.inr (Or.inr (Or.inr (Or.inr (Or.inr (Or.inr (Or.inr (Or.inr (Or.inl z))))))))))) (fun z => Or.elim z (fun z => Or.inr (Or.inr (Or.inr (Or.inr (Or.inr (Or.inr (Or.inr (Or.inr (Or.inr (Or.inr (Or.inr (Or.inl z)))))))))))) (fun z => Or.elim z (fun z => Or.inr (Or.inr (Or.inr (Or.inr (Or.inr (Or.inr (Or.inr (Or.inr (Or.inr (Or.inr (Or.inr (Or.inr (Or.inl z))))))))))))) (fun z => Or.elim z (fun z => Or.inr (Or.inr (Or.inr (Or.inr (Or.inr (Or.inr (Or.inr (Or.inr (Or.inr (Or.inr (Or.inr (Or.inr (Or.inr (z)))))))))))))) (fun z => Or.elim z (fun z => Or.inr (Or.inr (Or.inr (Or.inr (Or.inl z))))) (fun z => Or.elim z (fun z => Or.inr (Or.inr (Or.inr (Or.inr (Or.inr (Or.inr (Or.inl z))))))) (fun z => Or.elim z (fun z => Or.inr (Or.inr (Or.inr (Or.inr (Or.inr (Or.inl z)))))) (fun z => Or.elim z (fun z => Or.inl z) (fun z => Or.elim z (fun z => Or.inr (Or.inl z)) (fun z => Or.elim z (fun z => Or.inr (Or.inr (Or.inl z))) (fun z => Or.inr (Or.inr (Or.inr (Or.inl z)))))))))))))))
    show wW (zK sc) zM206 20 [(3, .inl r1), (0, .inr (.inr (.inl (some (34, 0))))), (1, .inl f), (2, .inl x)] [] _ _ _
    refine ww_go 4 (pc' := 25) (L' := [(4, .inl (4 * f)), (3, .inl r1), (0, .inr (.inr (.inl (some (34, 0))))), (1, .inl f), (2, .inl x)]) (st' := []) (m' := m6) (o := none) rfl trivial ?_
    refine ww_sub (L := [(0, .inr (.inr (.inl (some (34, 0))))), (1, .inl f), (2, .inl x), (4, .inl (4 * f))]) ⟨rfl, rfl, rfl, rfl, trivial⟩ rfl rfl ?_
    exact (zs206_l25 hc f x hG hR h0 _) (4 * f) m6 rfl (zB_mono hGm6 (by omega)) hFm6 hRm6 (by omega)
  · show wW (zK sc) zM206 11 [(3, .inl r1), (0, .inr (.inr (.inl (some (34, 0))))), (1, .inl f), (2, .inl x)] [] _ _ _
    refine ww_go 1 (pc' := 12) (L' := [(3, .inl r1), (0, .inr (.inr (.inl (some (34, 0))))), (1, .inl f), (2, .inl x)]) (st' := [.inl r1]) (m' := m0) (o := none) rfl trivial ?_
    exact ww_rI rfl rfl ⟨_, rfl, rfl, zB_mono hG (by omega), hF, ⟨hR, by omega⟩⟩
