set_option maxRecDepth 8000 in
theorem zs190_l61 {sc : xSc} {n : Nat × Nat} {m0 : wm} {c : Int} (hc : 0 ≤ c ∧ c ≤ 1000000) (f : Int) (i : Int) (hG : zB c m0) (hR : zRI m0) (h0 : 0 ≤ f ∧ f ≤ 7 ∧ 0 ≤ i ∧ i ≤ 6) (hp : 0 ≤ m0.1 54 0 ((7 * f + i).toNat) ∧ m0.1 55 0 ((2 * (7 * f + i)).toNat) = 1 ∧ (m0.1 54 0 ((7 * f + i).toNat) ≤ 64 ∨ m0.1 55 0 ((2 * (7 * f + i) + 1).toNat) = 1) ∧ (i = 0 → m0.1 51 0 f.toNat ≠ 1)) : ∀ (d : Nat), ∀ (k : Int) (m : wm), (7 - k).toNat = d → zB c m → zfr (fun k i j => (k = 58) ∨ (k = 59) ∨ (k = 60) ∨ (k = 61) ∨ (k = 34 ∧ j = 30) ∨ (k = 54) ∨ (k = 55) ∨ (k = 57) ∨ (k = 51) ∨ (k = 52)) m0 m → zRI m → (1 ≤ k ∧ k ≤ 7 ∧ m.1 51 0 f.toNat = 1) →  wW (zK sc) zM190 61 [(0, .inr (.inr (.inl (some (34, 0))))), (1, .inl f), (3, .inl k)] [] n m (wr (fun vv n1 m1 => vv = none ∧ n = n1 ∧ zB c m1 ∧ zfr (fun k i j => (k = 58) ∨ (k = 59) ∨ (k = 60) ∨ (k = 61) ∨ (k = 34 ∧ j = 30) ∨ (k = 54) ∨ (k = 55) ∨ (k = 57) ∨ (k = 51) ∨ (k = 52)) m0 m1 ∧ (zRI m1 ∧ (True)))) := by
  intro d
  induction d using Nat.strongRecOn with
  | ind d ih =>
    intro k m hd hGm hFm hRm hi
    refine ww_go 2 (pc' := 64) (L' := [(0, .inr (.inr (.inl (some (34, 0))))), (1, .inl f), (3, .inl k)]) (st' := [.inl 7, .inl k]) (m' := m) (o := none) rfl trivial ?_
    refine ww_ic (t := 102) rfl rfl (by omega) (fun (h1 : 7 ≤ k) => ?_) (fun (h1 : ¬ (7 ≤ k)) => ?_)
    · show wW (zK sc) zM190 102 [(0, .inr (.inr (.inl (some (34, 0))))), (1, .inl f), (3, .inl k)] [] _ _ _
      exact ww_rV rfl rfl ⟨rfl, rfl, zB_mono hGm (by omega), hFm, ⟨hRm, by trivial⟩⟩
    · show wW (zK sc) zM190 67 [(0, .inr (.inr (.inl (some (34, 0))))), (1, .inl f), (3, .inl k)] [] _ _ _
      have b2 : 0 ≤ m.1 52 0 f.toNat ∧ m.1 52 0 f.toNat ≤ 6 := hGm.1 52 _ rfl _ _
      refine ww_go 5 (pc' := 74) (L' := [(0, .inr (.inr (.inl (some (34, 0))))), (1, .inl f), (3, .inl k)]) (st' := [.inl (m.1 52 0 f.toNat), .inl k]) (m' := m) (o := some ((0 < 1) ∧ (0 < 1 ∧ 0 ≤ f ∧ f < ((8 : Nat) : Int)))) rfl (show (0 < 1) ∧ (0 < 1 ∧ 0 ≤ f ∧ f < ((8 : Nat) : Int)) from by omega) ?_
      refine ww_ic (t := 90) rfl rfl (by omega) (fun (h3 : k ≤ m.1 52 0 f.toNat) => ?_) (fun (h3 : ¬ (k ≤ m.1 52 0 f.toNat)) => ?_)
      · show wW (zK sc) zM190 90 [(0, .inr (.inr (.inl (some (34, 0))))), (1, .inl f), (3, .inl k)] [] _ _ _
        refine ww_go 3 (pc' := 93) (L' := [(0, .inr (.inr (.inl (some (34, 0))))), (1, .inl f), (3, .inl k)]) (st' := [.inl k, .inl f, .inr (.inr (.inl (some (34, 0))))]) (m' := m) (o := none) rfl trivial ?_
        refine ww_call (vs := [.inr (.inr (.inl (some (34, 0)))), .inl f, .inl k]) (r := []) (p := 0 < 1) rfl rfl rfl rfl (show 0 < 1 from by omega) (zs189 (c := c) (by omega) f k hGm hRm (by omega)) ?_
        rintro _ _ m6 ⟨rfl, rfl, hGm6, hEm6, hRm6, hr5⟩
        have hFm6 : zfr (fun k i j => (k = 58) ∨ (k = 59) ∨ (k = 60) ∨ (k = 61) ∨ (k = 34 ∧ j = 30) ∨ (k = 54) ∨ (k = 55) ∨ (k = 57) ∨ (k = 51) ∨ (k = 52)) m0 m6 := zfr_tr hFm hEm6 (fun k i j z => Or.elim z (fun z => Or.inl z) (fun z => Or.elim z (fun z => Or.inr (Or.inl z)) (fun z => Or.elim z (fun z => Or.inr (Or.inr (Or.inl z))) (fun z => Or.elim z (fun z => Or.inr (Or.inr (Or.inr (Or.inl z)))) (fun z => Or.elim z (fun z => Or.inr (Or.inr (Or.inr (Or.inr (Or.inl z))))) (fun z => Or.elim z (fun z => Or.inr (Or.inr (Or.inr (Or.inr (Or.inr (Or.inl z)))))) (fun z => Or.elim z (fun z => Or.inr (Or.inr (Or.inr (Or.inr (Or.inr (Or.inr (Or.inl z))))))) (fun z => Or.inr (Or.inr (Or.inr (Or.inr (Or.inr (Or.inr (Or.inr (Or.inl z)))))))))))))))
        have w7 : m6.1 51 0 f.toNat = m.1 51 0 f.toNat := (hEm6 51 0 f.toNat (show ¬ ((51 = 58) ∨ (51 = 59) ∨ (51 = 60) ∨ (51 = 61) ∨ (51 = 34 ∧ f.toNat = 30) ∨ (51 = 54) ∨ (51 = 55) ∨ (51 = 57)) from by omega)).1
        show wW (zK sc) zM190 96 [(0, .inr (.inr (.inl (some (34, 0))))), (1, .inl f), (3, .inl k)] [] _ _ _
        refine ww_go 2 (pc' := 61) (L' := [(3, .inl (k + 1)), (0, .inr (.inr (.inl (some (34, 0))))), (1, .inl f)]) (st' := []) (m' := m6) (o := none) rfl trivial ?_
        refine ww_sub (L := [(0, .inr (.inr (.inl (some (34, 0))))), (1, .inl f), (3, .inl (k + 1))]) ⟨rfl, rfl, rfl, trivial⟩ rfl rfl ?_
        exact (ih _ (by omega)) (k + 1) m6 rfl (zB_mono hGm6 (by omega)) hFm6 hRm6 (by omega)
      · show wW (zK sc) zM190 77 [(0, .inr (.inr (.inl (some (34, 0))))), (1, .inl f), (3, .inl k)] [] _ _ _
        refine ww_go 6 (pc' := 84) (L' := [(0, .inr (.inr (.inl (some (34, 0))))), (1, .inl f), (3, .inl k)]) (st' := [.inl ((7 * f) + k), .inr (.inr (.inl (some (34, 0))))]) (m' := m) (o := none) rfl trivial ?_
        refine ww_call (vs := [.inr (.inr (.inl (some (34, 0)))), .inl ((7 * f) + k)]) (r := []) (p := 0 < 1) rfl rfl rfl rfl (show 0 < 1 from by omega) (zs199 (c := c) (by omega) ((7 * f) + k) hGm (by omega)) ?_
        rintro _ _ m10 ⟨rfl, rfl, hGm10, hEm10, hr9⟩
        have hFm10 : zfr (fun k i j => (k = 58) ∨ (k = 59) ∨ (k = 60) ∨ (k = 61) ∨ (k = 34 ∧ j = 30) ∨ (k = 54) ∨ (k = 55) ∨ (k = 57) ∨ (k = 51) ∨ (k = 52)) m0 m10 := zfr_tr hFm hEm10 (fun k i j z => Or.elim z (fun z => Or.inl z) (fun z => Or.elim z (fun z => Or.inr (Or.inl z)) (fun z => Or.elim z (fun z => Or.inr (Or.inr (Or.inl z))) (fun z => Or.elim z (fun z => Or.inr (Or.inr (Or.inr (Or.inl z)))) (fun z => Or.elim z (fun z => Or.inr (Or.inr (Or.inr (Or.inr (Or.inl z))))) (fun z => Or.elim z (fun z => Or.inr (Or.inr (Or.inr (Or.inr (Or.inr (Or.inl z)))))) (fun z => Or.elim z (fun z => Or.inr (Or.inr (Or.inr (Or.inr (Or.inr (Or.inr (Or.inl z))))))) (fun z => Or.inr (Or.inr (Or.inr (Or.inr (Or.inr (Or.inr (Or.inr (Or.inl z)))))))))))))))
        have w11 : m10.1 51 0 f.toNat = m.1 51 0 f.toNat := (hEm10 51 0 f.toNat (show ¬ ((51 = 58) ∨ (51 = 59) ∨ (51 = 60) ∨ (51 = 61) ∨ (51 = 34 ∧ f.toNat = 30) ∨ (51 = 54) ∨ (51 = 55) ∨ (51 = 57)) from by omega)).1
        have hRm10 : zRI m10 := zRI_fg (p := f) (i := k) hRm (zB_ct hGm) (by omega) (by omega) (by omega) (by omega) hr9 (by funext j; exact (hEm10 51 0 j (show ¬ ((51 = 58) ∨ (51 = 59) ∨ (51 = 60) ∨ (51 = 61) ∨ (51 = 34 ∧ j = 30) ∨ (51 = 54) ∨ (51 = 55) ∨ (51 = 57)) from by omega)).1) (by funext j; exact (hEm10 52 0 j (show ¬ ((52 = 58) ∨ (52 = 59) ∨ (52 = 60) ∨ (52 = 61) ∨ (52 = 34 ∧ j = 30) ∨ (52 = 54) ∨ (52 = 55) ∨ (52 = 57)) from by omega)).1) (by funext j; exact (hEm10 53 0 j (show ¬ ((53 = 58) ∨ (53 = 59) ∨ (53 = 60) ∨ (53 = 61) ∨ (53 = 34 ∧ j = 30) ∨ (53 = 54) ∨ (53 = 55) ∨ (53 = 57)) from by omega)).1) (by funext j; exact (hEm10 56 0 j (show ¬ ((56 = 58) ∨ (56 = 59) ∨ (56 = 60) ∨ (56 = 61) ∨ (56 = 34 ∧ j = 30) ∨ (56 = 54) ∨ (56 = 55) ∨ (56 = 57)) from by omega)).1) (Or.inr (by omega)) (Or.inl (by omega))
        show wW (zK sc) zM190 87 [(0, .inr (.inr (.inl (some (34, 0))))), (1, .inl f), (3, .inl k)] [] _ _ _
        refine ww_go 3 (pc' := 61) (L' := [(3, .inl (k + 1)), (0, .inr (.inr (.inl (some (34, 0))))), (1, .inl f)]) (st' := []) (m' := m10) (o := none) rfl trivial ?_
        refine ww_sub (L := [(0, .inr (.inr (.inl (some (34, 0))))), (1, .inl f), (3, .inl (k + 1))]) ⟨rfl, rfl, rfl, trivial⟩ rfl rfl ?_
        exact (ih _ (by omega)) (k + 1) m10 rfl (zB_mono hGm10 (by omega)) hFm10 hRm10 (by omega)
set_option maxRecDepth 8000 in
/-- Mo.completes -/
theorem zs190 {sc : xSc} {n : Nat × Nat} {m0 : wm} {c : Int} (hc : 0 ≤ c ∧ c ≤ 1000000) (f : Int) (i : Int) (hG : zB c m0) (hR : zRI m0) (h0 : 0 ≤ f ∧ f ≤ 7 ∧ 0 ≤ i ∧ i ≤ 6) (hp : 0 ≤ m0.1 54 0 ((7 * f + i).toNat) ∧ m0.1 55 0 ((2 * (7 * f + i)).toNat) = 1 ∧ (m0.1 54 0 ((7 * f + i).toNat) ≤ 64 ∨ m0.1 55 0 ((2 * (7 * f + i) + 1).toNat) = 1) ∧ (i = 0 → m0.1 51 0 f.toNat ≠ 1)) : wX (zK sc) 190 [.inr (.inr (.inl (some (34, 0)))), .inl f, .inl i] n m0 (wr (fun vv n1 m1 => vv = none ∧ n = n1 ∧ zB c m1 ∧ zfr (fun k i j => (k = 58) ∨ (k = 59) ∨ (k = 60) ∨ (k = 61) ∨ (k = 34 ∧ j = 30) ∨ (k = 54) ∨ (k = 55) ∨ (k = 57) ∨ (k = 51) ∨ (k = 52)) m0 m1 ∧ (zRI m1 ∧ (True)))) := by
  refine wX_of (N := zM190) rfl (Nat.le_of_ble_eq_true rfl) ?_
  show wW (zK sc) zM190 0 [(0, .inr (.inr (.inl (some (34, 0))))), (1, .inl f), (2, .inl i)] [] n m0 _
  have hF : zfr (fun k i j => (k = 58) ∨ (k = 59) ∨ (k = 60) ∨ (k = 61) ∨ (k = 34 ∧ j = 30) ∨ (k = 54) ∨ (k = 55) ∨ (k = 57) ∨ (k = 51) ∨ (k = 52)) m0 m0 := zfr_rf
  refine ww_go 1 (pc' := 1) (L' := [(0, .inr (.inr (.inl (some (34, 0))))), (1, .inl f), (2, .inl i)]) (st' := [.inl i]) (m' := m0) (o := none) rfl trivial ?_
  refine ww_if (t := 20) rfl rfl (by omega) (fun (h1 : i ≤ 0) => ?_) (fun (h1 : ¬ (i ≤ 0)) => ?_)
  · show wW (zK sc) zM190 20 [(0, .inr (.inr (.inl (some (34, 0))))), (1, .inl f), (2, .inl i)] [] _ _ _
    refine ww_go 2 (pc' := 22) (L' := [(0, .inr (.inr (.inl (some (34, 0))))), (1, .inl f), (2, .inl i)]) (st' := [.inl f, .inr (.inr (.inl (some (34, 0))))]) (m' := m0) (o := none) rfl trivial ?_
    refine ww_call (vs := [.inr (.inr (.inl (some (34, 0)))), .inl f]) (r := []) (p := 0 < 1) rfl rfl rfl rfl (show 0 < 1 from by omega) (zs211 (c := c) (by omega) f hG (by omega)) ?_
    rintro _ _ _ ⟨r2, rfl, rfl, rfl, hr3⟩
    show wW (zK sc) zM190 25 [(0, .inr (.inr (.inl (some (34, 0))))), (1, .inl f), (2, .inl i)] [.inl r2] _ _ _
    refine ww_if (t := 37) rfl rfl (by omega) (fun (h4 : r2 ≠ 0) => ?_) (fun (h4 : ¬ (r2 ≠ 0)) => ?_)
    · show wW (zK sc) zM190 37 [(0, .inr (.inr (.inl (some (34, 0))))), (1, .inl f), (2, .inl i)] [] _ _ _
      refine ww_go 5 (pc' := 44) (L' := [(0, .inr (.inr (.inl (some (34, 0))))), (1, .inl f), (2, .inl i)]) (st' := []) (m' := wuI m0 51 0 f.toNat 1) (o := some ((0 < 1) ∧ (0 < 1 ∧ 0 ≤ f ∧ f < ((8 : Nat) : Int) ∧ 0 ≤ (1 : Int) ∧ (1 : Int) ≤ 1))) rfl (show (0 < 1) ∧ (0 < 1 ∧ 0 ≤ f ∧ f < ((8 : Nat) : Int) ∧ 0 ≤ (1 : Int) ∧ (1 : Int) ≤ 1) from by omega) ?_
      obtain ⟨m5, hm5⟩ : ∃ zq9 : wm, zq9 = wuI m0 51 0 f.toNat 1 := ⟨_, rfl⟩
      rw [← hm5]
      have hGm5 : zB c m5 := by rw [hm5]; exact zB_wI rfl (show 0 ≤ (1 : Int) ∧ (1 : Int) ≤ 1 from by omega) hG
      have hFm5 : zfr (fun k i j => (k = 58) ∨ (k = 59) ∨ (k = 60) ∨ (k = 61) ∨ (k = 34 ∧ j = 30) ∨ (k = 54) ∨ (k = 55) ∨ (k = 57) ∨ (k = 51) ∨ (k = 52)) m0 m5 := by rw [hm5]; exact zfr_wI hF (show (51 = 58) ∨ (51 = 59) ∨ (51 = 60) ∨ (51 = 61) ∨ (51 = 34 ∧ f.toNat = 30) ∨ (51 = 54) ∨ (51 = 55) ∨ (51 = 57) ∨ (51 = 51) ∨ (51 = 52) from Or.inr (Or.inr (Or.inr (Or.inr (Or.inr (Or.inr (Or.inr (Or.inr (Or.inl rfl)))))))))
      have s6 : m5.1 51 0 f.toNat = (1 : Int) := by rw [hm5]; exact wuI_self
      refine ww_go 8 (pc' := 55) (L' := [(0, .inr (.inr (.inl (some (34, 0))))), (1, .inl f), (2, .inl i)]) (st' := [.inl 2, .inl (7 * f), .inr (.inr (.inl (some (34, 0)))), .inl f, .inr (.inr (.inl (some (52, 0))))]) (m' := m5) (o := some ((0 < 1))) rfl (show (0 < 1) from by omega) ?_
      refine ww_call (vs := [.inr (.inr (.inl (some (34, 0)))), .inl (7 * f), .inl 2]) (r := [.inl f, .inr (.inr (.inl (some (52, 0))))]) (p := 0 < 1) rfl rfl rfl rfl (show 0 < 1 from by omega) (zs185 (c := c) (by omega) (7 * f) 2 hGm5 (by omega)) ?_
      rintro _ _ _ ⟨r7, rfl, rfl, rfl, hr8⟩
      have zB9 : r7 = m0.1 56 0 (104 * (7 * f) + 2).toNat := by rw [(hr8).1, hm5]; rfl
      have zM9 := (hr3).elim id (fun z => absurd z (by omega))
      have zN9 := zM9.2.2
      show wW (zK sc) zM190 58 [(0, .inr (.inr (.inl (some (34, 0))))), (1, .inl f), (2, .inl i)] [.inl r7, .inl f, .inr (.inr (.inl (some (52, 0))))] _ _ _
      refine ww_go 1 (pc' := 59) (L' := [(0, .inr (.inr (.inl (some (34, 0))))), (1, .inl f), (2, .inl i)]) (st' := []) (m' := wuI m5 52 0 f.toNat r7) (o := some ((0 < 1 ∧ 0 ≤ f ∧ f < ((8 : Nat) : Int)))) rfl (show (0 < 1 ∧ 0 ≤ f ∧ f < ((8 : Nat) : Int)) from by omega) ?_
      obtain ⟨m9, hm9⟩ : ∃ zq9 : wm, zq9 = wuI m5 52 0 f.toNat r7 := ⟨_, rfl⟩
      rw [← hm9]
      have hGm9 : zB c m9 := by rw [hm9]; exact zB_wI rfl (show 0 ≤ r7 ∧ r7 ≤ 6 from by omega) hGm5
      have hFm9 : zfr (fun k i j => (k = 58) ∨ (k = 59) ∨ (k = 60) ∨ (k = 61) ∨ (k = 34 ∧ j = 30) ∨ (k = 54) ∨ (k = 55) ∨ (k = 57) ∨ (k = 51) ∨ (k = 52)) m0 m9 := by rw [hm9]; exact zfr_wI hFm5 (show (52 = 58) ∨ (52 = 59) ∨ (52 = 60) ∨ (52 = 61) ∨ (52 = 34 ∧ f.toNat = 30) ∨ (52 = 54) ∨ (52 = 55) ∨ (52 = 57) ∨ (52 = 51) ∨ (52 = 52) from Or.inr (Or.inr (Or.inr (Or.inr (Or.inr (Or.inr (Or.inr (Or.inr (Or.inr (rfl))))))))))
      have s10 : m9.1 52 0 f.toNat = r7 := by rw [hm9]; exact wuI_self
      have w11 : m9.1 51 0 f.toNat = m5.1 51 0 f.toNat := by rw [hm9]; rfl
      have hRm9 : zRI m9 := by rw [hm9]; rw [hm5]; exact zRI_man hR (zB_ct hG) (by omega) (by omega) (by omega) (by rw [zB9]; exact zM9.2.1) (by rw [show i = 0 from by omega, Int.add_zero] at hp; exact ⟨hp.2.1, hp.2.2.1, hp.1⟩)
      refine ww_go 2 (pc' := 61) (L' := [(3, .inl 1), (0, .inr (.inr (.inl (some (34, 0))))), (1, .inl f), (2, .inl i)]) (st' := []) (m' := m9) (o := none) rfl trivial ?_
      refine ww_sub (L := [(0, .inr (.inr (.inl (some (34, 0))))), (1, .inl f), (3, .inl 1)]) ⟨rfl, rfl, rfl, trivial⟩ rfl rfl ?_
      exact (zs190_l61 hc f i hG hR h0 hp _) 1 m9 rfl (zB_mono hGm9 (by omega)) hFm9 hRm9 (by omega)
    · show wW (zK sc) zM190 28 [(0, .inr (.inr (.inl (some (34, 0))))), (1, .inl f), (2, .inl i)] [] _ _ _
      refine ww_go 4 (pc' := 33) (L' := [(0, .inr (.inr (.inl (some (34, 0))))), (1, .inl f), (2, .inl i)]) (st' := [.inl (7 * f), .inr (.inr (.inl (some (34, 0))))]) (m' := m0) (o := none) rfl trivial ?_
      refine ww_call (vs := [.inr (.inr (.inl (some (34, 0)))), .inl (7 * f)]) (r := []) (p := 0 < 1) rfl rfl rfl rfl (show 0 < 1 from by omega) (zs199 (c := c) (by omega) (7 * f) hG (by omega)) ?_
      rintro _ _ m14 ⟨rfl, rfl, hGm14, hEm14, hr13⟩
      have hFm14 : zfr (fun k i j => (k = 58) ∨ (k = 59) ∨ (k = 60) ∨ (k = 61) ∨ (k = 34 ∧ j = 30) ∨ (k = 54) ∨ (k = 55) ∨ (k = 57) ∨ (k = 51) ∨ (k = 52)) m0 m14 := zfr_tr hF hEm14 (fun k i j z => Or.elim z (fun z => Or.inl z) (fun z => Or.elim z (fun z => Or.inr (Or.inl z)) (fun z => Or.elim z (fun z => Or.inr (Or.inr (Or.inl z))) (fun z => Or.elim z (fun z => Or.inr (Or.inr (Or.inr (Or.inl z)))) (fun z => Or.elim z (fun z => Or.inr (Or.inr (Or.inr (Or.inr (Or.inl z))))) (fun z => Or.elim z (fun z => Or.inr (Or.inr (Or.inr (Or.inr (Or.inr (Or.inl z)))))) (fun z => Or.elim z (fun z => Or.inr (Or.inr (Or.inr (Or.inr (Or.inr (Or.inr (Or.inl z))))))) (fun z => Or.inr (Or.inr (Or.inr (Or.inr (Or.inr (Or.inr (Or.inr (Or.inl z)))))))))))))))
      have w15 : m14.1 51 0 f.toNat = m0.1 51 0 f.toNat := (hEm14 51 0 f.toNat (show ¬ ((51 = 58) ∨ (51 = 59) ∨ (51 = 60) ∨ (51 = 61) ∨ (51 = 34 ∧ f.toNat = 30) ∨ (51 = 54) ∨ (51 = 55) ∨ (51 = 57)) from by omega)).1
      have hRm14 : zRI m14 := zRI_fg (p := f) (i := 0) hR (zB_ct hG) (by omega) (by omega) (by omega) (by omega) (by rw [Int.add_zero]; exact hr13) (by funext j; exact (hEm14 51 0 j (show ¬ ((51 = 58) ∨ (51 = 59) ∨ (51 = 60) ∨ (51 = 61) ∨ (51 = 34 ∧ j = 30) ∨ (51 = 54) ∨ (51 = 55) ∨ (51 = 57)) from by omega)).1) (by funext j; exact (hEm14 52 0 j (show ¬ ((52 = 58) ∨ (52 = 59) ∨ (52 = 60) ∨ (52 = 61) ∨ (52 = 34 ∧ j = 30) ∨ (52 = 54) ∨ (52 = 55) ∨ (52 = 57)) from by omega)).1) (by funext j; exact (hEm14 53 0 j (show ¬ ((53 = 58) ∨ (53 = 59) ∨ (53 = 60) ∨ (53 = 61) ∨ (53 = 34 ∧ j = 30) ∨ (53 = 54) ∨ (53 = 55) ∨ (53 = 57)) from by omega)).1) (by funext j; exact (hEm14 56 0 j (show ¬ ((56 = 58) ∨ (56 = 59) ∨ (56 = 60) ∨ (56 = 61) ∨ (56 = 34 ∧ j = 30) ∨ (56 = 54) ∨ (56 = 55) ∨ (56 = 57)) from by omega)).1) (Or.inl (fun z => by have z9 := (hR f (by omega) (by omega)).2.1 0 (by omega) (by omega) z; omega)) (Or.inr (by omega))
      show wW (zK sc) zM190 36 [(0, .inr (.inr (.inl (some (34, 0))))), (1, .inl f), (2, .inl i)] [] _ _ _
      exact ww_rV rfl rfl ⟨rfl, rfl, zB_mono hGm14 (by omega), hFm14, ⟨hRm14, by trivial⟩⟩
  · show wW (zK sc) zM190 4 [(0, .inr (.inr (.inl (some (34, 0))))), (1, .inl f), (2, .inl i)] [] _ _ _
    have b16 : 0 ≤ m0.1 51 0 f.toNat ∧ m0.1 51 0 f.toNat ≤ 1 := hG.1 51 _ rfl _ _
    refine ww_go 4 (pc' := 10) (L' := [(0, .inr (.inr (.inl (some (34, 0))))), (1, .inl f), (2, .inl i)]) (st' := [.inl (m0.1 51 0 f.toNat)]) (m' := m0) (o := some ((0 < 1) ∧ (0 < 1 ∧ 0 ≤ f ∧ f < ((8 : Nat) : Int)))) rfl (show (0 < 1) ∧ (0 < 1 ∧ 0 ≤ f ∧ f < ((8 : Nat) : Int)) from by omega) ?_
    refine ww_if (t := 19) rfl rfl (by omega) (fun (h17 : m0.1 51 0 f.toNat = 0) => ?_) (fun (h17 : ¬ (m0.1 51 0 f.toNat = 0)) => ?_)
    · show wW (zK sc) zM190 19 [(0, .inr (.inr (.inl (some (34, 0))))), (1, .inl f), (2, .inl i)] [] _ _ _
      exact ww_rV rfl rfl ⟨rfl, rfl, zB_mono hG (by omega), hF, ⟨hR, by trivial⟩⟩
    · show wW (zK sc) zM190 13 [(0, .inr (.inr (.inl (some (34, 0))))), (1, .inl f), (2, .inl i)] [] _ _ _
      refine ww_go 3 (pc' := 16) (L' := [(0, .inr (.inr (.inl (some (34, 0))))), (1, .inl f), (2, .inl i)]) (st' := [.inl i, .inl f, .inr (.inr (.inl (some (34, 0))))]) (m' := m0) (o := none) rfl trivial ?_
      refine ww_call (vs := [.inr (.inr (.inl (some (34, 0)))), .inl f, .inl i]) (r := []) (p := 0 < 1) rfl rfl rfl rfl (show 0 < 1 from by omega) (zs189 (c := c) (by omega) f i hG hR (by omega)) ?_
      rintro _ _ m20 ⟨rfl, rfl, hGm20, hEm20, hRm20, hr19⟩
      have hFm20 : zfr (fun k i j => (k = 58) ∨ (k = 59) ∨ (k = 60) ∨ (k = 61) ∨ (k = 34 ∧ j = 30) ∨ (k = 54) ∨ (k = 55) ∨ (k = 57) ∨ (k = 51) ∨ (k = 52)) m0 m20 := zfr_tr hF hEm20 (fun k i j z => Or.elim z (fun z => Or.inl z) (fun z => Or.elim z (fun z => Or.inr (Or.inl z)) (fun z => Or.elim z (fun z => Or.inr (Or.inr (Or.inl z))) (fun z => Or.elim z (fun z => Or.inr (Or.inr (Or.inr (Or.inl z)))) (fun z => Or.elim z (fun z => Or.inr (Or.inr (Or.inr (Or.inr (Or.inl z))))) (fun z => Or.elim z (fun z => Or.inr (Or.inr (Or.inr (Or.inr (Or.inr (Or.inl z)))))) (fun z => Or.elim z (fun z => Or.inr (Or.inr (Or.inr (Or.inr (Or.inr (Or.inr (Or.inl z))))))) (fun z => Or.inr (Or.inr (Or.inr (Or.inr (Or.inr (Or.inr (Or.inr (Or.inl z)))))))))))))))
      have w21 : m20.1 51 0 f.toNat = m0.1 51 0 f.toNat := (hEm20 51 0 f.toNat (show ¬ ((51 = 58) ∨ (51 = 59) ∨ (51 = 60) ∨ (51 = 61) ∨ (51 = 34 ∧ f.toNat = 30) ∨ (51 = 54) ∨ (51 = 55) ∨ (51 = 57)) from by omega)).1
      show wW (zK sc) zM190 19 [(0, .inr (.inr (.inl (some (34, 0))))), (1, .inl f), (2, .inl i)] [] _ _ _
      exact ww_rV rfl rfl ⟨rfl, rfl, zB_mono hGm20 (by omega), hFm20, ⟨hRm20, by trivial⟩⟩
set_option maxRecDepth 8000 in
theorem zs184_l91 {sc : xSc} {n : Nat × Nat} {m : wm} {c : Int} (hc : 0 ≤ c ∧ c ≤ 1000000) (f : Int) (i : Int) (y : Int) (x : Int) (hG : zB c m) (h0 : 0 ≤ f ∧ f ≤ 7 ∧ 1 ≤ i ∧ i ≤ x ∧ x ≤ 6 ∧ 0 ≤ y ∧ y ≤ 3) (hM : zMF x (zby m f)) : ∀ (d : Nat), ∀ (a : Int) (s : Int) (k : Int), (7 - k).toNat = d → (0 ≤ s ∧ s ≤ 1 ∧ 1 ≤ k ∧ k ≤ 7 ∧ 3 ≤ a ∧ a ≤ 104) → (m.1 56 0 (104 * (7 * f) + a).toNat ≤ 6) →  wW (zK sc) zM184 91 [(0, .inr (.inr (.inl (some (34, 0))))), (1, .inl f), (5, .inl a), (6, .inl s), (7, .inl k)] [] n m (wr (fun vv n1 m1 => ∃ r : Int, vv = some (.inl r) ∧ n = n1 ∧ m = m1 ∧ (0 ≤ r ∧ r ≤ 1))) := by
  intro d
  induction d using Nat.strongRecOn with
  | ind d ih =>
    intro a s k hd hi hN
    refine ww_go 6 (pc' := 100) (L' := [(0, .inr (.inr (.inl (some (34, 0))))), (1, .inl f), (5, .inl a), (6, .inl s), (7, .inl k)]) (st' := [.inl a, .inl (7 * f), .inr (.inr (.inl (some (34, 0)))), .inl k]) (m' := m) (o := none) rfl trivial ?_
    refine ww_call (vs := [.inr (.inr (.inl (some (34, 0)))), .inl (7 * f), .inl a]) (r := [.inl k]) (p := 0 < 1) rfl rfl rfl rfl (show 0 < 1 from by omega) (zs185 (c := c) (by omega) (7 * f) a hG (by omega)) ?_
    rintro _ _ _ ⟨r1, rfl, rfl, rfl, hr2⟩
    show wW (zK sc) zM184 103 [(0, .inr (.inr (.inl (some (34, 0))))), (1, .inl f), (5, .inl a), (6, .inl s), (7, .inl k)] [.inl r1, .inl k] _ _ _
    refine ww_ic (t := 145) rfl rfl (by omega) (fun (h3 : r1 < k) => ?_) (fun (h3 : ¬ (r1 < k)) => ?_)
    · show wW (zK sc) zM184 145 [(0, .inr (.inr (.inl (some (34, 0))))), (1, .inl f), (5, .inl a), (6, .inl s), (7, .inl k)] [] _ _ _
      refine ww_go 1 (pc' := 147) (L' := [(0, .inr (.inr (.inl (some (34, 0))))), (1, .inl f), (5, .inl a), (6, .inl s), (7, .inl k)]) (st' := [.inl s]) (m' := m) (o := none) rfl trivial ?_
      exact ww_rB rfl rfl (by omega) ⟨_, rfl, rfl, rfl, by omega⟩
    · show wW (zK sc) zM184 106 [(0, .inr (.inr (.inl (some (34, 0))))), (1, .inl f), (5, .inl a), (6, .inl s), (7, .inl k)] [] _ _ _
      refine ww_go 1 (pc' := 108) (L' := [(0, .inr (.inr (.inl (some (34, 0))))), (1, .inl f), (5, .inl a), (6, .inl s), (7, .inl k)]) (st' := [.inl s]) (m' := m) (o := none) rfl trivial ?_
      refine ww_if (t := 132) rfl rfl (by omega) (fun (h4 : s ≠ 0) => ?_) (fun (h4 : ¬ (s ≠ 0)) => ?_)
      · show wW (zK sc) zM184 132 [(0, .inr (.inr (.inl (some (34, 0))))), (1, .inl f), (5, .inl a), (6, .inl s), (7, .inl k)] [] _ _ _
        refine ww_go 5 (pc' := 91) (L' := [(7, .inl (k + 1)), (6, .inl 1), (0, .inr (.inr (.inl (some (34, 0))))), (1, .inl f), (5, .inl a)]) (st' := []) (m' := m) (o := none) rfl trivial ?_
        refine ww_sub (L := [(0, .inr (.inr (.inl (some (34, 0))))), (1, .inl f), (5, .inl a), (6, .inl 1), (7, .inl (k + 1))]) ⟨rfl, rfl, rfl, rfl, rfl, trivial⟩ rfl rfl ?_
        exact (ih _ (by omega)) a 1 (k + 1) rfl (by omega) (by exact hN)
      · show wW (zK sc) zM184 111 [(0, .inr (.inr (.inl (some (34, 0))))), (1, .inl f), (5, .inl a), (6, .inl s), (7, .inl k)] [] _ _ _
        refine ww_go 9 (pc' := 125) (L' := [(0, .inr (.inr (.inl (some (34, 0))))), (1, .inl f), (5, .inl a), (6, .inl s), (7, .inl k)]) (st' := [.inl (a + k), .inl (7 * f), .inr (.inr (.inl (some (34, 0)))), .inr (.inr (.inl (some (62, 0))))]) (m' := m) (o := some ((0 < 1))) rfl (show (0 < 1) from by omega) ?_
        refine ww_call (vs := [.inr (.inr (.inl (some (34, 0)))), .inl (7 * f), .inl (a + k)]) (r := [.inr (.inr (.inl (some (62, 0))))]) (p := 0 < 1) rfl rfl rfl rfl (show 0 < 1 from by omega) (zs185 (c := c) (by omega) (7 * f) (a + k) hG (by omega)) ?_
        rintro _ _ _ ⟨r5, rfl, rfl, rfl, hr6⟩
        show wW (zK sc) zM184 128 [(0, .inr (.inr (.inl (some (34, 0))))), (1, .inl f), (5, .inl a), (6, .inl s), (7, .inl k)] [.inl r5, .inr (.inr (.inl (some (62, 0))))] _ _ _
        have b7 : 0 ≤ m.1 62 0 r5.toNat ∧ m.1 62 0 r5.toNat ≤ 1 := hG.1 62 _ rfl _ _
        refine ww_go 1 (pc' := 129) (L' := [(0, .inr (.inr (.inl (some (34, 0))))), (1, .inl f), (5, .inl a), (6, .inl s), (7, .inl k)]) (st' := [.inl (m.1 62 0 r5.toNat)]) (m' := m) (o := some ((0 < 1 ∧ 0 ≤ r5 ∧ r5 < ((256 : Nat) : Int)))) rfl (show (0 < 1 ∧ 0 ≤ r5 ∧ r5 < ((256 : Nat) : Int)) from by omega) ?_
        refine ww_if (t := 136) rfl rfl (by omega) (fun (h8 : m.1 62 0 r5.toNat = 0) => ?_) (fun (h8 : ¬ (m.1 62 0 r5.toNat = 0)) => ?_)
        · show wW (zK sc) zM184 136 [(0, .inr (.inr (.inl (some (34, 0))))), (1, .inl f), (5, .inl a), (6, .inl s), (7, .inl k)] [] _ _ _
          refine ww_go 4 (pc' := 91) (L' := [(7, .inl (k + 1)), (6, .inl 0), (0, .inr (.inr (.inl (some (34, 0))))), (1, .inl f), (5, .inl a)]) (st' := []) (m' := m) (o := none) rfl trivial ?_
          refine ww_sub (L := [(0, .inr (.inr (.inl (some (34, 0))))), (1, .inl f), (5, .inl a), (6, .inl 0), (7, .inl (k + 1))]) ⟨rfl, rfl, rfl, rfl, rfl, trivial⟩ rfl rfl ?_
          exact (ih _ (by omega)) a 0 (k + 1) rfl (by omega) (by exact hN)
        · show wW (zK sc) zM184 132 [(0, .inr (.inr (.inl (some (34, 0))))), (1, .inl f), (5, .inl a), (6, .inl s), (7, .inl k)] [] _ _ _
          refine ww_go 5 (pc' := 91) (L' := [(7, .inl (k + 1)), (6, .inl 1), (0, .inr (.inr (.inl (some (34, 0))))), (1, .inl f), (5, .inl a)]) (st' := []) (m' := m) (o := none) rfl trivial ?_
          refine ww_sub (L := [(0, .inr (.inr (.inl (some (34, 0))))), (1, .inl f), (5, .inl a), (6, .inl 1), (7, .inl (k + 1))]) ⟨rfl, rfl, rfl, rfl, rfl, trivial⟩ rfl rfl ?_
          exact (ih _ (by omega)) a 1 (k + 1) rfl (by omega) (by exact hN)
set_option maxRecDepth 8000 in
/-- Mo.breaks -/
theorem zs184 {sc : xSc} {n : Nat × Nat} {m : wm} {c : Int} (hc : 0 ≤ c ∧ c ≤ 1000000) (f : Int) (i : Int) (y : Int) (x : Int) (hG : zB c m) (h0 : 0 ≤ f ∧ f ≤ 7 ∧ 1 ≤ i ∧ i ≤ x ∧ x ≤ 6 ∧ 0 ≤ y ∧ y ≤ 3) (hM : zMF x (zby m f)) : wX (zK sc) 184 [.inr (.inr (.inl (some (34, 0)))), .inl f, .inl i, .inl y] n m (wr (fun vv n1 m1 => ∃ r : Int, vv = some (.inl r) ∧ n = n1 ∧ m = m1 ∧ (0 ≤ r ∧ r ≤ 1))) := by
  refine wX_of (N := zM184) rfl (Nat.le_of_ble_eq_true rfl) ?_
  show wW (zK sc) zM184 0 [(0, .inr (.inr (.inl (some (34, 0))))), (1, .inl f), (2, .inl i), (3, .inl y)] [] n m _
  refine ww_go 7 (pc' := 9) (L' := [(4, .inl ((7 * f) + i)), (0, .inr (.inr (.inl (some (34, 0))))), (1, .inl f), (2, .inl i), (3, .inl y)]) (st' := [.inl y]) (m' := m) (o := none) rfl trivial ?_
  refine ww_if (t := 39) rfl rfl (by omega) (fun (h1 : y ≠ 0) => ?_) (fun (h1 : ¬ (y ≠ 0)) => ?_)
  · show wW (zK sc) zM184 39 [(4, .inl ((7 * f) + i)), (0, .inr (.inr (.inl (some (34, 0))))), (1, .inl f), (2, .inl i), (3, .inl y)] [] _ _ _
    refine ww_go 2 (pc' := 41) (L' := [(4, .inl ((7 * f) + i)), (0, .inr (.inr (.inl (some (34, 0))))), (1, .inl f), (2, .inl i), (3, .inl y)]) (st' := [.inl 3, .inl y]) (m' := m) (o := none) rfl trivial ?_
    refine ww_ic (t := 75) rfl rfl (by omega) (fun (h2 : y ≠ 3) => ?_) (fun (h2 : ¬ (y ≠ 3)) => ?_)
    · show wW (zK sc) zM184 75 [(4, .inl ((7 * f) + i)), (0, .inr (.inr (.inl (some (34, 0))))), (1, .inl f), (2, .inl i), (3, .inl y)] [] _ _ _
      refine ww_go 5 (pc' := 80) (L' := [(4, .inl ((7 * f) + i)), (0, .inr (.inr (.inl (some (34, 0))))), (1, .inl f), (2, .inl i), (3, .inl y)]) (st' := [.inl (i - 1), .inl f, .inr (.inr (.inl (some (34, 0))))]) (m' := m) (o := none) rfl trivial ?_
      refine ww_call (vs := [.inr (.inr (.inl (some (34, 0)))), .inl f, .inl (i - 1)]) (r := []) (p := 0 < 1) rfl rfl rfl rfl (show 0 < 1 from by omega) (zs249 (c := c) (by omega) f (i - 1) _ hG (by omega) hM) ?_
      rintro _ _ _ ⟨r3, rfl, rfl, rfl, hr4⟩
      show wW (zK sc) zM184 83 [(4, .inl ((7 * f) + i)), (0, .inr (.inr (.inl (some (34, 0))))), (1, .inl f), (2, .inl i), (3, .inl y)] [.inl r3] _ _ _
      refine ww_go 5 (pc' := 91) (L' := [(7, .inl 1), (6, .inl 0), (5, .inl r3), (4, .inl ((7 * f) + i)), (0, .inr (.inr (.inl (some (34, 0))))), (1, .inl f), (2, .inl i), (3, .inl y)]) (st' := []) (m' := m) (o := none) rfl trivial ?_
      refine ww_sub (L := [(0, .inr (.inr (.inl (some (34, 0))))), (1, .inl f), (5, .inl r3), (6, .inl 0), (7, .inl 1)]) ⟨rfl, rfl, rfl, rfl, rfl, trivial⟩ rfl rfl ?_
      exact (zs184_l91 hc f i y x hG h0 hM _) r3 0 1 rfl (by omega) (by exact (zMF_n (i := i - 1) hM (hr4).1 rfl (by omega)).2.1)
    · show wW (zK sc) zM184 44 [(4, .inl ((7 * f) + i)), (0, .inr (.inr (.inl (some (34, 0))))), (1, .inl f), (2, .inl i), (3, .inl y)] [] _ _ _
      have b5 : (-1) ≤ m.1 54 0 (((7 * f) + i).toNat) ∧ m.1 54 0 (((7 * f) + i).toNat) ≤ 104 := hG.1 54 _ rfl _ _
      refine ww_go 4 (pc' := 51) (L' := [(4, .inl ((7 * f) + i)), (0, .inr (.inr (.inl (some (34, 0))))), (1, .inl f), (2, .inl i), (3, .inl y)]) (st' := [.inl (m.1 54 0 (((7 * f) + i).toNat))]) (m' := m) (o := some ((0 < 1) ∧ (0 < 1 ∧ 0 ≤ (7 * f) + i ∧ (7 * f) + i < ((56 : Nat) : Int)))) rfl (show (0 < 1) ∧ (0 < 1 ∧ 0 ≤ (7 * f) + i ∧ (7 * f) + i < ((56 : Nat) : Int)) from by omega) ?_
      refine ww_if (t := 73) rfl rfl (by omega) (fun (h6 : m.1 54 0 (((7 * f) + i).toNat) ≤ 0) => ?_) (fun (h6 : ¬ (m.1 54 0 (((7 * f) + i).toNat) ≤ 0)) => ?_)
      · show wW (zK sc) zM184 73 [(4, .inl ((7 * f) + i)), (0, .inr (.inr (.inl (some (34, 0))))), (1, .inl f), (2, .inl i), (3, .inl y)] [] _ _ _
        refine ww_go 1 (pc' := 74) (L' := [(4, .inl ((7 * f) + i)), (0, .inr (.inr (.inl (some (34, 0))))), (1, .inl f), (2, .inl i), (3, .inl y)]) (st' := [.inl 0]) (m' := m) (o := none) rfl trivial ?_
        exact ww_rB rfl rfl (by omega) ⟨_, rfl, rfl, rfl, by omega⟩
      · show wW (zK sc) zM184 54 [(4, .inl ((7 * f) + i)), (0, .inr (.inr (.inl (some (34, 0))))), (1, .inl f), (2, .inl i), (3, .inl y)] [] _ _ _
        refine ww_go 5 (pc' := 62) (L' := [(4, .inl ((7 * f) + i)), (0, .inr (.inr (.inl (some (34, 0))))), (1, .inl f), (2, .inl i), (3, .inl y)]) (st' := [.inl 0, .inl ((7 * f) + i), .inr (.inr (.inl (some (34, 0)))), .inr (.inr (.inl (some (63, 0))))]) (m' := m) (o := some ((0 < 1))) rfl (show (0 < 1) from by omega) ?_
        refine ww_call (vs := [.inr (.inr (.inl (some (34, 0)))), .inl ((7 * f) + i), .inl 0]) (r := [.inr (.inr (.inl (some (63, 0))))]) (p := 0 < 1) rfl rfl rfl rfl (show 0 < 1 from by omega) (zs185 (c := c) (by omega) ((7 * f) + i) 0 hG (by omega)) ?_
        rintro _ _ _ ⟨r7, rfl, rfl, rfl, hr8⟩
        show wW (zK sc) zM184 65 [(4, .inl ((7 * f) + i)), (0, .inr (.inr (.inl (some (34, 0))))), (1, .inl f), (2, .inl i), (3, .inl y)] [.inl r7, .inr (.inr (.inl (some (63, 0))))] _ _ _
        have b9 : 0 ≤ m.1 63 0 r7.toNat ∧ m.1 63 0 r7.toNat ≤ 1 := hG.1 63 _ rfl _ _
        refine ww_go 1 (pc' := 66) (L' := [(4, .inl ((7 * f) + i)), (0, .inr (.inr (.inl (some (34, 0))))), (1, .inl f), (2, .inl i), (3, .inl y)]) (st' := [.inl (m.1 63 0 r7.toNat)]) (m' := m) (o := some ((0 < 1 ∧ 0 ≤ r7 ∧ r7 < ((256 : Nat) : Int)))) rfl (show (0 < 1 ∧ 0 ≤ r7 ∧ r7 < ((256 : Nat) : Int)) from by omega) ?_
        refine ww_if (t := 73) rfl rfl (by omega) (fun (h10 : m.1 63 0 r7.toNat = 0) => ?_) (fun (h10 : ¬ (m.1 63 0 r7.toNat = 0)) => ?_)
        · show wW (zK sc) zM184 73 [(4, .inl ((7 * f) + i)), (0, .inr (.inr (.inl (some (34, 0))))), (1, .inl f), (2, .inl i), (3, .inl y)] [] _ _ _
          refine ww_go 1 (pc' := 74) (L' := [(4, .inl ((7 * f) + i)), (0, .inr (.inr (.inl (some (34, 0))))), (1, .inl f), (2, .inl i), (3, .inl y)]) (st' := [.inl 0]) (m' := m) (o := none) rfl trivial ?_
          exact ww_rB rfl rfl (by omega) ⟨_, rfl, rfl, rfl, by omega⟩
        · show wW (zK sc) zM184 69 [(4, .inl ((7 * f) + i)), (0, .inr (.inr (.inl (some (34, 0))))), (1, .inl f), (2, .inl i), (3, .inl y)] [] _ _ _
          refine ww_go 2 (pc' := 74) (L' := [(4, .inl ((7 * f) + i)), (0, .inr (.inr (.inl (some (34, 0))))), (1, .inl f), (2, .inl i), (3, .inl y)]) (st' := [.inl 1]) (m' := m) (o := none) rfl trivial ?_
          exact ww_rB rfl rfl (by omega) ⟨_, rfl, rfl, rfl, by omega⟩
  · show wW (zK sc) zM184 12 [(4, .inl ((7 * f) + i)), (0, .inr (.inr (.inl (some (34, 0))))), (1, .inl f), (2, .inl i), (3, .inl y)] [] _ _ _
    have b11 : (-1) ≤ m.1 34 0 36 ∧ m.1 34 0 36 ≤ 96 := hG.1 34 _ rfl _ _
    refine ww_go 2 (pc' := 16) (L' := [(4, .inl ((7 * f) + i)), (0, .inr (.inr (.inl (some (34, 0))))), (1, .inl f), (2, .inl i), (3, .inl y)]) (st' := [.inl (m.1 34 0 36)]) (m' := m) (o := some ((0 < 1))) rfl (show (0 < 1) from by omega) ?_
    refine ww_if (t := 37) rfl rfl (by omega) (fun (h12 : m.1 34 0 36 < 0) => ?_) (fun (h12 : ¬ (m.1 34 0 36 < 0)) => ?_)
    · show wW (zK sc) zM184 37 [(4, .inl ((7 * f) + i)), (0, .inr (.inr (.inl (some (34, 0))))), (1, .inl f), (2, .inl i), (3, .inl y)] [] _ _ _
      refine ww_go 1 (pc' := 38) (L' := [(4, .inl ((7 * f) + i)), (0, .inr (.inr (.inl (some (34, 0))))), (1, .inl f), (2, .inl i), (3, .inl y)]) (st' := [.inl 0]) (m' := m) (o := none) rfl trivial ?_
      exact ww_rB rfl rfl (by omega) ⟨_, rfl, rfl, rfl, by omega⟩
    · show wW (zK sc) zM184 19 [(4, .inl ((7 * f) + i)), (0, .inr (.inr (.inl (some (34, 0))))), (1, .inl f), (2, .inl i), (3, .inl y)] [] _ _ _
      have b13 : (-1) ≤ m.1 54 0 (((7 * f) + i).toNat) ∧ m.1 54 0 (((7 * f) + i).toNat) ≤ 104 := hG.1 54 _ rfl _ _
      have b14 : (-1) ≤ m.1 34 0 36 ∧ m.1 34 0 36 ≤ 96 := hG.1 34 _ rfl _ _
      refine ww_go 6 (pc' := 30) (L' := [(4, .inl ((7 * f) + i)), (0, .inr (.inr (.inl (some (34, 0))))), (1, .inl f), (2, .inl i), (3, .inl y)]) (st' := [.inl (m.1 34 0 36), .inl (m.1 54 0 (((7 * f) + i).toNat))]) (m' := m) (o := some ((0 < 1) ∧ (0 < 1 ∧ 0 ≤ (7 * f) + i ∧ (7 * f) + i < ((56 : Nat) : Int)) ∧ (0 < 1))) rfl (show (0 < 1) ∧ (0 < 1 ∧ 0 ≤ (7 * f) + i ∧ (7 * f) + i < ((56 : Nat) : Int)) ∧ (0 < 1) from by omega) ?_
      refine ww_ic (t := 37) rfl rfl (by omega) (fun (h15 : m.1 54 0 (((7 * f) + i).toNat) ≤ m.1 34 0 36) => ?_) (fun (h15 : ¬ (m.1 54 0 (((7 * f) + i).toNat) ≤ m.1 34 0 36)) => ?_)
      · show wW (zK sc) zM184 37 [(4, .inl ((7 * f) + i)), (0, .inr (.inr (.inl (some (34, 0))))), (1, .inl f), (2, .inl i), (3, .inl y)] [] _ _ _
        refine ww_go 1 (pc' := 38) (L' := [(4, .inl ((7 * f) + i)), (0, .inr (.inr (.inl (some (34, 0))))), (1, .inl f), (2, .inl i), (3, .inl y)]) (st' := [.inl 0]) (m' := m) (o := none) rfl trivial ?_
        exact ww_rB rfl rfl (by omega) ⟨_, rfl, rfl, rfl, by omega⟩
      · show wW (zK sc) zM184 33 [(4, .inl ((7 * f) + i)), (0, .inr (.inr (.inl (some (34, 0))))), (1, .inl f), (2, .inl i), (3, .inl y)] [] _ _ _
        refine ww_go 2 (pc' := 38) (L' := [(4, .inl ((7 * f) + i)), (0, .inr (.inr (.inl (some (34, 0))))), (1, .inl f), (2, .inl i), (3, .inl y)]) (st' := [.inl 1]) (m' := m) (o := none) rfl trivial ?_
        exact ww_rB rfl rfl (by omega) ⟨_, rfl, rfl, rfl, by omega⟩
set_option maxRecDepth 8000 in
/-- Mo.reject -/
theorem zs233 {sc : xSc} {n : Nat × Nat} {m0 : wm} {c : Int} (hc : 0 ≤ c ∧ c ≤ 1000000) (f : Int) (x : Int) (y : Int) (hG : zB c m0) (hR : zRI m0) (h0 : 0 ≤ f ∧ f ≤ 7 ∧ 0 ≤ x ∧ x ≤ 3 ∧ 0 ≤ y ∧ y ≤ 6 ∧ m0.1 51 0 f.toNat = 1) : wX (zK sc) 233 [.inr (.inr (.inl (some (34, 0)))), .inl f, .inl x, .inl y] n m0 (wr (fun vv n1 m1 => vv = none ∧ n = n1 ∧ zB (c + 1) m1 ∧ zfr (fun k i j => (k = 34 ∧ j = 48) ∨ (k = 34 ∧ j = 47) ∨ (k = 71) ∨ (k = 72) ∨ (k = 53)) m0 m1 ∧ (zRI m1 ∧ (True)))) := by
  refine wX_of (N := zM233) rfl (Nat.le_of_ble_eq_true rfl) ?_
  show wW (zK sc) zM233 0 [(0, .inr (.inr (.inl (some (34, 0))))), (1, .inl f), (2, .inl x), (3, .inl y)] [] n m0 _
  have hF : zfr (fun k i j => (k = 34 ∧ j = 48) ∨ (k = 34 ∧ j = 47) ∨ (k = 71) ∨ (k = 72) ∨ (k = 53)) m0 m0 := zfr_rf
  refine ww_go 5 (pc' := 7) (L' := [(0, .inr (.inr (.inl (some (34, 0))))), (1, .inl f), (2, .inl x), (3, .inl y)]) (st' := []) (m' := wuI m0 53 0 f.toNat 2) (o := some ((0 < 1) ∧ (0 < 1 ∧ 0 ≤ f ∧ f < ((8 : Nat) : Int)))) rfl (show (0 < 1) ∧ (0 < 1 ∧ 0 ≤ f ∧ f < ((8 : Nat) : Int)) from by omega) ?_
  obtain ⟨m1, hm1⟩ : ∃ zq9 : wm, zq9 = wuI m0 53 0 f.toNat 2 := ⟨_, rfl⟩
  rw [← hm1]
  have hGm1 : zB c m1 := by rw [hm1]; exact zB_wI rfl (show 0 ≤ (2 : Int) ∧ (2 : Int) ≤ 2 from by omega) hG
  have hFm1 : zfr (fun k i j => (k = 34 ∧ j = 48) ∨ (k = 34 ∧ j = 47) ∨ (k = 71) ∨ (k = 72) ∨ (k = 53)) m0 m1 := by rw [hm1]; exact zfr_wI hF (show (53 = 34 ∧ f.toNat = 48) ∨ (53 = 34 ∧ f.toNat = 47) ∨ (53 = 71) ∨ (53 = 72) ∨ (53 = 53) from Or.inr (Or.inr (Or.inr (Or.inr (rfl)))))
  have s2 : m1.1 53 0 f.toNat = (2 : Int) := by rw [hm1]; exact wuI_self
  have hRm1 : zRI m1 := by rw [hm1]; exact zRI_w53 (p := f) hR (zB_ct hG) (by omega) (by omega) (fun z => by omega)
  have t3 : (0 ≤ f → f.tdiv 4 = f / 4) ∧ (f < 0 → f.tdiv 4 = -((-f) / 4)) := ⟨fun z => Int.tdiv_eq_ediv_of_nonneg z, fun z => wtdiv_neg z⟩
  have b4 : 0 ≤ m1.1 50 0 f.toNat ∧ m1.1 50 0 f.toNat ≤ 65535 := hGm1.1 50 _ rfl _ _
  refine ww_go 12 (pc' := 21) (L' := [(0, .inr (.inr (.inl (some (34, 0))))), (1, .inl f), (2, .inl x), (3, .inl y)]) (st' := [.inl y, .inl (1 + x), .inl (m1.1 50 0 f.toNat), .inl (f.tdiv 4), .inr (.inr (.inl (some (34, 0))))]) (m' := m1) (o := some ((-2147483648 ≤ f ∧ f ≤ 2147483647 ∧ 0 < (4 : Int) ∧ (4 : Int) ≤ 2147483647) ∧ (0 < 1) ∧ (0 < 1 ∧ 0 ≤ f ∧ f < ((8 : Nat) : Int)))) rfl (show (-2147483648 ≤ f ∧ f ≤ 2147483647 ∧ 0 < (4 : Int) ∧ (4 : Int) ≤ 2147483647) ∧ (0 < 1) ∧ (0 < 1 ∧ 0 ≤ f ∧ f < ((8 : Nat) : Int)) from by omega) ?_
  refine ww_call (vs := [.inr (.inr (.inl (some (34, 0)))), .inl (f.tdiv 4), .inl (m1.1 50 0 f.toNat), .inl (1 + x), .inl y]) (r := []) (p := 0 < 1) rfl rfl rfl rfl (show 0 < 1 from by omega) (zs225 (c := c) (by omega) (f.tdiv 4) (m1.1 50 0 f.toNat) (1 + x) y hGm1 (by omega)) ?_
  rintro _ _ m7 ⟨rfl, rfl, hGm7, hEm7, hr6⟩
  have hFm7 : zfr (fun k i j => (k = 34 ∧ j = 48) ∨ (k = 34 ∧ j = 47) ∨ (k = 71) ∨ (k = 72) ∨ (k = 53)) m0 m7 := zfr_tr hFm1 hEm7 (fun k i j z => Or.elim z (fun z => Or.inl z) (fun z => Or.elim z (fun z => Or.inr (Or.inl z)) (fun z => Or.elim z (fun z => Or.inr (Or.inr (Or.inl z))) (fun z => Or.inr (Or.inr (Or.inr (Or.inl z)))))))
  have hRm7 : zRI m7 := zRI_fr hRm1 hEm7 (fun k j hk => (show ¬ ((k = 34 ∧ j = 48) ∨ (k = 34 ∧ j = 47) ∨ (k = 71) ∨ (k = 72)) from by omega))
  show wW (zK sc) zM233 24 [(0, .inr (.inr (.inl (some (34, 0))))), (1, .inl f), (2, .inl x), (3, .inl y)] [] _ _ _
  exact ww_rV rfl rfl ⟨rfl, rfl, zB_mono hGm7 (by omega), hFm7, ⟨hRm7, by trivial⟩⟩
set_option maxRecDepth 8000 in
theorem zs216_l72 {sc : xSc} {n : Nat × Nat} {m0 : wm} {c : Int} (hc : 0 ≤ c ∧ c ≤ 1000000) (f : Int) (hG : zB c m0) (hR : zRI m0) (h0 : 0 ≤ f ∧ f ≤ 7) : ∀ (d : Nat), (∀ (k : Int) (m : wm), (4 - k).toNat * 100 + 99 = d → zB c m → zfr (fun k i j => (k = 34 ∧ j = 48) ∨ (k = 34 ∧ j = 47) ∨ (k = 71) ∨ (k = 72) ∨ (k = 53)) m0 m → zRI m → (0 ≤ k ∧ k ≤ 4 ∧ m.1 51 0 f.toNat = 1) →  wW (zK sc) zM216 72 [(0, .inr (.inr (.inl (some (34, 0))))), (1, .inl f), (3, .inl k)] [] n m (wr (fun vv n1 m1 => vv = none ∧ n = n1 ∧ zB (c + 1) m1 ∧ zfr (fun k i j => (k = 34 ∧ j = 48) ∨ (k = 34 ∧ j = 47) ∨ (k = 71) ∨ (k = 72) ∨ (k = 53)) m0 m1 ∧ (zRI m1 ∧ (True))))) ∧ (∀ (k : Int) (i : Int) (m : wm), (4 - k).toNat * 100 + (7 - i).toNat = d → zB c m → zfr (fun k i j => (k = 34 ∧ j = 48) ∨ (k = 34 ∧ j = 47) ∨ (k = 71) ∨ (k = 72) ∨ (k = 53)) m0 m → zRI m → (0 ≤ k ∧ k ≤ 3 ∧ 1 ≤ i ∧ i ≤ 7 ∧ m.1 51 0 f.toNat = 1) →  wW (zK sc) zM216 113 [(0, .inr (.inr (.inl (some (34, 0))))), (1, .inl f), (3, .inl k), (4, .inl i)] [] n m (wr (fun vv n1 m1 => vv = none ∧ n = n1 ∧ zB (c + 1) m1 ∧ zfr (fun k i j => (k = 34 ∧ j = 48) ∨ (k = 34 ∧ j = 47) ∨ (k = 71) ∨ (k = 72) ∨ (k = 53)) m0 m1 ∧ (zRI m1 ∧ (True))))) := by
  intro d
  induction d using Nat.strongRecOn with
  | ind d ih =>
    refine ⟨?_, ?_⟩
    · intro k m hd hGm hFm hRm hi
      have bg : 0 ≤ m0.1 51 0 f.toNat ∧ m0.1 51 0 f.toNat ≤ 1 := hG.1 51 _ rfl _ _
      have bv : 0 ≤ m0.1 53 0 f.toNat ∧ m0.1 53 0 f.toNat ≤ 2 := hG.1 53 _ rfl _ _
      have bc : 0 ≤ m0.1 52 0 f.toNat ∧ m0.1 52 0 f.toNat ≤ 6 := hG.1 52 _ rfl _ _
      refine ww_go 2 (pc' := 74) (L' := [(0, .inr (.inr (.inl (some (34, 0))))), (1, .inl f), (3, .inl k)]) (st' := [.inl 4, .inl k]) (m' := m) (o := none) rfl trivial ?_
      refine ww_ic (t := 156) rfl rfl (by omega) (fun (h1 : 4 ≤ k) => ?_) (fun (h1 : ¬ (4 ≤ k)) => ?_)
      · show wW (zK sc) zM216 156 [(0, .inr (.inr (.inl (some (34, 0))))), (1, .inl f), (3, .inl k)] [] _ _ _
        exact ww_rV rfl rfl ⟨rfl, rfl, zB_mono hGm (by omega), hFm, ⟨hRm, by trivial⟩⟩
      · show wW (zK sc) zM216 77 [(0, .inr (.inr (.inl (some (34, 0))))), (1, .inl f), (3, .inl k)] [] _ _ _
        refine ww_go 2 (pc' := 79) (L' := [(0, .inr (.inr (.inl (some (34, 0))))), (1, .inl f), (3, .inl k)]) (st' := [.inl 1, .inl k]) (m' := m) (o := none) rfl trivial ?_
        refine ww_ic (t := 110) rfl rfl (by omega) (fun (h2 : k ≠ 1) => ?_) (fun (h2 : ¬ (k ≠ 1)) => ?_)
        · show wW (zK sc) zM216 110 [(0, .inr (.inr (.inl (some (34, 0))))), (1, .inl f), (3, .inl k)] [] _ _ _
          refine ww_go 2 (pc' := 113) (L' := [(4, .inl 1), (0, .inr (.inr (.inl (some (34, 0))))), (1, .inl f), (3, .inl k)]) (st' := []) (m' := m) (o := none) rfl trivial ?_
          refine ww_sub (L := [(0, .inr (.inr (.inl (some (34, 0))))), (1, .inl f), (3, .inl k), (4, .inl 1)]) ⟨rfl, rfl, rfl, rfl, trivial⟩ rfl rfl ?_
          exact (ih _ (by omega)).2 k 1 m rfl (zB_mono hGm (by omega)) hFm hRm (by omega)
        · show wW (zK sc) zM216 82 [(0, .inr (.inr (.inl (some (34, 0))))), (1, .inl f), (3, .inl k)] [] _ _ _
          have b3 : (-1) ≤ m.1 34 0 37 ∧ m.1 34 0 37 ≤ 6 := hGm.1 34 _ rfl _ _
          refine ww_go 2 (pc' := 86) (L' := [(0, .inr (.inr (.inl (some (34, 0))))), (1, .inl f), (3, .inl k)]) (st' := [.inl (m.1 34 0 37)]) (m' := m) (o := some ((0 < 1))) rfl (show (0 < 1) from by omega) ?_
          refine ww_if (t := 150) rfl rfl (by omega) (fun (h4 : m.1 34 0 37 < 0) => ?_) (fun (h4 : ¬ (m.1 34 0 37 < 0)) => ?_)
          · show wW (zK sc) zM216 150 [(0, .inr (.inr (.inl (some (34, 0))))), (1, .inl f), (3, .inl k)] [] _ _ _
            refine ww_go 2 (pc' := 72) (L' := [(3, .inl (k + 1)), (0, .inr (.inr (.inl (some (34, 0))))), (1, .inl f)]) (st' := []) (m' := m) (o := none) rfl trivial ?_
            refine ww_sub (L := [(0, .inr (.inr (.inl (some (34, 0))))), (1, .inl f), (3, .inl (k + 1))]) ⟨rfl, rfl, rfl, trivial⟩ rfl rfl ?_
            exact (ih _ (by omega)).1 (k + 1) m rfl (zB_mono hGm (by omega)) hFm hRm (by omega)
          · show wW (zK sc) zM216 89 [(0, .inr (.inr (.inl (some (34, 0))))), (1, .inl f), (3, .inl k)] [] _ _ _
            have b5 : 0 ≤ m.1 52 0 f.toNat ∧ m.1 52 0 f.toNat ≤ 6 := hGm.1 52 _ rfl _ _
            have b6 : (-1) ≤ m.1 34 0 37 ∧ m.1 34 0 37 ≤ 6 := hGm.1 34 _ rfl _ _
            refine ww_go 6 (pc' := 99) (L' := [(0, .inr (.inr (.inl (some (34, 0))))), (1, .inl f), (3, .inl k)]) (st' := [.inl (m.1 34 0 37), .inl (m.1 52 0 f.toNat)]) (m' := m) (o := some ((0 < 1) ∧ (0 < 1 ∧ 0 ≤ f ∧ f < ((8 : Nat) : Int)) ∧ (0 < 1))) rfl (show (0 < 1) ∧ (0 < 1 ∧ 0 ≤ f ∧ f < ((8 : Nat) : Int)) ∧ (0 < 1) from by omega) ?_
            refine ww_ic (t := 150) rfl rfl (by omega) (fun (h7 : m.1 52 0 f.toNat ≤ m.1 34 0 37) => ?_) (fun (h7 : ¬ (m.1 52 0 f.toNat ≤ m.1 34 0 37)) => ?_)
            · show wW (zK sc) zM216 150 [(0, .inr (.inr (.inl (some (34, 0))))), (1, .inl f), (3, .inl k)] [] _ _ _
              refine ww_go 2 (pc' := 72) (L' := [(3, .inl (k + 1)), (0, .inr (.inr (.inl (some (34, 0))))), (1, .inl f)]) (st' := []) (m' := m) (o := none) rfl trivial ?_
              refine ww_sub (L := [(0, .inr (.inr (.inl (some (34, 0))))), (1, .inl f), (3, .inl (k + 1))]) ⟨rfl, rfl, rfl, trivial⟩ rfl rfl ?_
              exact (ih _ (by omega)).1 (k + 1) m rfl (zB_mono hGm (by omega)) hFm hRm (by omega)
            · show wW (zK sc) zM216 102 [(0, .inr (.inr (.inl (some (34, 0))))), (1, .inl f), (3, .inl k)] [] _ _ _
              refine ww_go 4 (pc' := 106) (L' := [(0, .inr (.inr (.inl (some (34, 0))))), (1, .inl f), (3, .inl k)]) (st' := [.inl 0, .inl k, .inl f, .inr (.inr (.inl (some (34, 0))))]) (m' := m) (o := none) rfl trivial ?_
              refine ww_call (vs := [.inr (.inr (.inl (some (34, 0)))), .inl f, .inl k, .inl 0]) (r := []) (p := 0 < 1) rfl rfl rfl rfl (show 0 < 1 from by omega) (zs233 (c := c) (by omega) f k 0 hGm hRm (by omega)) ?_
              rintro _ _ m10 ⟨rfl, rfl, hGm10, hEm10, hRm10, hr9⟩
              have hFm10 : zfr (fun k i j => (k = 34 ∧ j = 48) ∨ (k = 34 ∧ j = 47) ∨ (k = 71) ∨ (k = 72) ∨ (k = 53)) m0 m10 := zfr_tr hFm hEm10 (fun k i j z => Or.elim z (fun z => Or.inl z) (fun z => Or.elim z (fun z => Or.inr (Or.inl z)) (fun z => Or.elim z (fun z => Or.inr (Or.inr (Or.inl z))) (fun z => Or.elim z (fun z => Or.inr (Or.inr (Or.inr (Or.inl z)))) (fun z => Or.inr (Or.inr (Or.inr (Or.inr (z)))))))))
              have w11 : m10.1 51 0 f.toNat = m.1 51 0 f.toNat := (hEm10 51 0 f.toNat (show ¬ ((51 = 34 ∧ f.toNat = 48) ∨ (51 = 34 ∧ f.toNat = 47) ∨ (51 = 71) ∨ (51 = 72) ∨ (51 = 53)) from by omega)).1
              show wW (zK sc) zM216 109 [(0, .inr (.inr (.inl (some (34, 0))))), (1, .inl f), (3, .inl k)] [] _ _ _
              exact ww_rV rfl rfl ⟨rfl, rfl, zB_mono hGm10 (by omega), hFm10, ⟨hRm10, by trivial⟩⟩
    · intro k i m hd hGm hFm hRm hi
      have bg : 0 ≤ m0.1 51 0 f.toNat ∧ m0.1 51 0 f.toNat ≤ 1 := hG.1 51 _ rfl _ _
      have bv : 0 ≤ m0.1 53 0 f.toNat ∧ m0.1 53 0 f.toNat ≤ 2 := hG.1 53 _ rfl _ _
      have bc : 0 ≤ m0.1 52 0 f.toNat ∧ m0.1 52 0 f.toNat ≤ 6 := hG.1 52 _ rfl _ _
      have bc9 : 0 ≤ m.1 52 0 f.toNat ∧ m.1 52 0 f.toNat ≤ 6 := hGm.1 52 _ rfl _ _
      have b1 : 0 ≤ m.1 52 0 f.toNat ∧ m.1 52 0 f.toNat ≤ 6 := hGm.1 52 _ rfl _ _
      refine ww_go 5 (pc' := 121) (L' := [(0, .inr (.inr (.inl (some (34, 0))))), (1, .inl f), (3, .inl k), (4, .inl i)]) (st' := [.inl (m.1 52 0 f.toNat), .inl i]) (m' := m) (o := some ((0 < 1) ∧ (0 < 1 ∧ 0 ≤ f ∧ f < ((8 : Nat) : Int)))) rfl (show (0 < 1) ∧ (0 < 1 ∧ 0 ≤ f ∧ f < ((8 : Nat) : Int)) from by omega) ?_
      refine ww_ic (t := 150) rfl rfl (by omega) (fun (h2 : m.1 52 0 f.toNat < i) => ?_) (fun (h2 : ¬ (m.1 52 0 f.toNat < i)) => ?_)
      · show wW (zK sc) zM216 150 [(0, .inr (.inr (.inl (some (34, 0))))), (1, .inl f), (3, .inl k), (4, .inl i)] [] _ _ _
        refine ww_go 2 (pc' := 72) (L' := [(3, .inl (k + 1)), (0, .inr (.inr (.inl (some (34, 0))))), (1, .inl f), (4, .inl i)]) (st' := []) (m' := m) (o := none) rfl trivial ?_
        refine ww_sub (L := [(0, .inr (.inr (.inl (some (34, 0))))), (1, .inl f), (3, .inl (k + 1))]) ⟨rfl, rfl, rfl, trivial⟩ rfl rfl ?_
        exact (ih _ (by omega)).1 (k + 1) m rfl (zB_mono hGm (by omega)) hFm hRm (by omega)
      · show wW (zK sc) zM216 124 [(0, .inr (.inr (.inl (some (34, 0))))), (1, .inl f), (3, .inl k), (4, .inl i)] [] _ _ _
        refine ww_go 4 (pc' := 129) (L' := [(0, .inr (.inr (.inl (some (34, 0))))), (1, .inl f), (3, .inl k), (4, .inl i)]) (st' := [.inl k, .inl i, .inl f, .inr (.inr (.inl (some (34, 0))))]) (m' := m) (o := none) rfl trivial ?_
        refine ww_call (vs := [.inr (.inr (.inl (some (34, 0)))), .inl f, .inl i, .inl k]) (r := []) (p := 0 < 1) rfl rfl rfl rfl (show 0 < 1 from by omega) (zs184 (c := c) (by omega) f i k _ hGm (by omega) (zRI_mf hRm (by omega) (by omega))) ?_
        rintro _ _ _ ⟨r3, rfl, rfl, rfl, hr4⟩
        show wW (zK sc) zM216 132 [(0, .inr (.inr (.inl (some (34, 0))))), (1, .inl f), (3, .inl k), (4, .inl i)] [.inl r3] _ _ _
        refine ww_if (t := 144) rfl rfl (by omega) (fun (h5 : r3 = 0) => ?_) (fun (h5 : ¬ (r3 = 0)) => ?_)
        · show wW (zK sc) zM216 144 [(0, .inr (.inr (.inl (some (34, 0))))), (1, .inl f), (3, .inl k), (4, .inl i)] [] _ _ _
          refine ww_go 2 (pc' := 113) (L' := [(4, .inl (i + 1)), (0, .inr (.inr (.inl (some (34, 0))))), (1, .inl f), (3, .inl k)]) (st' := []) (m' := m) (o := none) rfl trivial ?_
          refine ww_sub (L := [(0, .inr (.inr (.inl (some (34, 0))))), (1, .inl f), (3, .inl k), (4, .inl (i + 1))]) ⟨rfl, rfl, rfl, rfl, trivial⟩ rfl rfl ?_
          exact (ih _ (by omega)).2 k (i + 1) m rfl (zB_mono hGm (by omega)) hFm hRm (by omega)
        · show wW (zK sc) zM216 135 [(0, .inr (.inr (.inl (some (34, 0))))), (1, .inl f), (3, .inl k), (4, .inl i)] [] _ _ _
          refine ww_go 4 (pc' := 140) (L' := [(0, .inr (.inr (.inl (some (34, 0))))), (1, .inl f), (3, .inl k), (4, .inl i)]) (st' := [.inl i, .inl k, .inl f, .inr (.inr (.inl (some (34, 0))))]) (m' := m) (o := none) rfl trivial ?_
          refine ww_call (vs := [.inr (.inr (.inl (some (34, 0)))), .inl f, .inl k, .inl i]) (r := []) (p := 0 < 1) rfl rfl rfl rfl (show 0 < 1 from by omega) (zs233 (c := c) (by omega) f k i hGm hRm (by omega)) ?_
          rintro _ _ m8 ⟨rfl, rfl, hGm8, hEm8, hRm8, hr7⟩
          have hFm8 : zfr (fun k i j => (k = 34 ∧ j = 48) ∨ (k = 34 ∧ j = 47) ∨ (k = 71) ∨ (k = 72) ∨ (k = 53)) m0 m8 := zfr_tr hFm hEm8 (fun k i j z => Or.elim z (fun z => Or.inl z) (fun z => Or.elim z (fun z => Or.inr (Or.inl z)) (fun z => Or.elim z (fun z => Or.inr (Or.inr (Or.inl z))) (fun z => Or.elim z (fun z => Or.inr (Or.inr (Or.inr (Or.inl z)))) (fun z => Or.inr (Or.inr (Or.inr (Or.inr (z)))))))))
          have w9 : m8.1 51 0 f.toNat = m.1 51 0 f.toNat := (hEm8 51 0 f.toNat (show ¬ ((51 = 34 ∧ f.toNat = 48) ∨ (51 = 34 ∧ f.toNat = 47) ∨ (51 = 71) ∨ (51 = 72) ∨ (51 = 53)) from by omega)).1
          show wW (zK sc) zM216 143 [(0, .inr (.inr (.inl (some (34, 0))))), (1, .inl f), (3, .inl k), (4, .inl i)] [] _ _ _
          exact ww_rV rfl rfl ⟨rfl, rfl, zB_mono hGm8 (by omega), hFm8, ⟨hRm8, by trivial⟩⟩
set_option maxRecDepth 8000 in
theorem zs216_l26 {sc : xSc} {n : Nat × Nat} {m0 : wm} {c : Int} (hc : 0 ≤ c ∧ c ≤ 1000000) (f : Int) (hG : zB c m0) (hR : zRI m0) (h0 : 0 ≤ f ∧ f ≤ 7) : ∀ (d : Nat), ∀ (w : Int) (i : Int), (7 - i).toNat = d → (0 ≤ w ∧ w ≤ 1 ∧ 1 ≤ i ∧ i ≤ 7) → (w = 1 → m0.1 51 0 f.toNat = 1 ∧ m0.1 53 0 f.toNat = 0 ∧ zHs m0 f i) →  wW (zK sc) zM216 26 [(0, .inr (.inr (.inl (some (34, 0))))), (1, .inl f), (2, .inl w), (3, .inl i)] [] n m0 (wr (fun vv n1 m1 => vv = none ∧ n = n1 ∧ zB (c + 1) m1 ∧ zfr (fun k i j => (k = 34 ∧ j = 48) ∨ (k = 34 ∧ j = 47) ∨ (k = 71) ∨ (k = 72) ∨ (k = 53)) m0 m1 ∧ (zRI m1 ∧ (True)))) := by
  intro d
  induction d using Nat.strongRecOn with
  | ind d ih =>
    intro w i hd hi hw
    have bg : 0 ≤ m0.1 51 0 f.toNat ∧ m0.1 51 0 f.toNat ≤ 1 := hG.1 51 _ rfl _ _
    have bv : 0 ≤ m0.1 53 0 f.toNat ∧ m0.1 53 0 f.toNat ≤ 2 := hG.1 53 _ rfl _ _
    have bc : 0 ≤ m0.1 52 0 f.toNat ∧ m0.1 52 0 f.toNat ≤ 6 := hG.1 52 _ rfl _ _
    have hw1 : w = 1 → m0.1 51 0 f.toNat = 1 := fun z => (hw z).1
    have hF : zfr (fun k i j => (k = 34 ∧ j = 48) ∨ (k = 34 ∧ j = 47) ∨ (k = 71) ∨ (k = 72) ∨ (k = 53)) m0 m0 := zfr_rf
    refine ww_go 1 (pc' := 27) (L' := [(0, .inr (.inr (.inl (some (34, 0))))), (1, .inl f), (2, .inl w), (3, .inl i)]) (st' := [.inl w]) (m' := m0) (o := none) rfl trivial ?_
    refine ww_if (t := 58) rfl rfl (by omega) (fun (h1 : w = 0) => ?_) (fun (h1 : ¬ (w = 0)) => ?_)
    · show wW (zK sc) zM216 58 [(0, .inr (.inr (.inl (some (34, 0))))), (1, .inl f), (2, .inl w), (3, .inl i)] [] _ _ _
      refine ww_go 1 (pc' := 59) (L' := [(0, .inr (.inr (.inl (some (34, 0))))), (1, .inl f), (2, .inl w), (3, .inl i)]) (st' := [.inl w]) (m' := m0) (o := none) rfl trivial ?_
      refine ww_if (t := 63) rfl rfl (by omega) (fun (h2 : w ≠ 0) => absurd h2 (by omega)) (fun (h2 : ¬ (w ≠ 0)) => ?_)
      show wW (zK sc) zM216 62 [(0, .inr (.inr (.inl (some (34, 0))))), (1, .inl f), (2, .inl w), (3, .inl i)] [] _ _ _
      exact ww_rV rfl rfl ⟨rfl, rfl, zB_mono hG (by omega), hF, ⟨hR, by trivial⟩⟩
    · show wW (zK sc) zM216 30 [(0, .inr (.inr (.inl (some (34, 0))))), (1, .inl f), (2, .inl w), (3, .inl i)] [] _ _ _
      have b3 : 0 ≤ m0.1 52 0 f.toNat ∧ m0.1 52 0 f.toNat ≤ 6 := hG.1 52 _ rfl _ _
      refine ww_go 5 (pc' := 37) (L' := [(0, .inr (.inr (.inl (some (34, 0))))), (1, .inl f), (2, .inl w), (3, .inl i)]) (st' := [.inl (m0.1 52 0 f.toNat), .inl i]) (m' := m0) (o := some ((0 < 1) ∧ (0 < 1 ∧ 0 ≤ f ∧ f < ((8 : Nat) : Int)))) rfl (show (0 < 1) ∧ (0 < 1 ∧ 0 ≤ f ∧ f < ((8 : Nat) : Int)) from by omega) ?_
      refine ww_ic (t := 58) rfl rfl (by omega) (fun (h4 : m0.1 52 0 f.toNat < i) => ?_) (fun (h4 : ¬ (m0.1 52 0 f.toNat < i)) => ?_)
      · show wW (zK sc) zM216 58 [(0, .inr (.inr (.inl (some (34, 0))))), (1, .inl f), (2, .inl w), (3, .inl i)] [] _ _ _
        refine ww_go 1 (pc' := 59) (L' := [(0, .inr (.inr (.inl (some (34, 0))))), (1, .inl f), (2, .inl w), (3, .inl i)]) (st' := [.inl w]) (m' := m0) (o := none) rfl trivial ?_
        refine ww_if (t := 63) rfl rfl (by omega) (fun (h5 : w ≠ 0) => ?_) (fun (h5 : ¬ (w ≠ 0)) => absurd (show w ≠ 0 from by omega) h5)
        show wW (zK sc) zM216 63 [(0, .inr (.inr (.inl (some (34, 0))))), (1, .inl f), (2, .inl w), (3, .inl i)] [] _ _ _
        refine ww_go 5 (pc' := 70) (L' := [(0, .inr (.inr (.inl (some (34, 0))))), (1, .inl f), (2, .inl w), (3, .inl i)]) (st' := []) (m' := wuI m0 53 0 f.toNat 1) (o := some ((0 < 1) ∧ (0 < 1 ∧ 0 ≤ f ∧ f < ((8 : Nat) : Int)))) rfl (show (0 < 1) ∧ (0 < 1 ∧ 0 ≤ f ∧ f < ((8 : Nat) : Int)) from by omega) ?_
        obtain ⟨m6, hm6⟩ : ∃ zq9 : wm, zq9 = wuI m0 53 0 f.toNat 1 := ⟨_, rfl⟩
        rw [← hm6]
        have hGm6 : zB c m6 := by rw [hm6]; exact zB_wI rfl (show 0 ≤ (1 : Int) ∧ (1 : Int) ≤ 2 from by omega) hG
        have hFm6 : zfr (fun k i j => (k = 34 ∧ j = 48) ∨ (k = 34 ∧ j = 47) ∨ (k = 71) ∨ (k = 72) ∨ (k = 53)) m0 m6 := by rw [hm6]; exact zfr_wI hF (show (53 = 34 ∧ f.toNat = 48) ∨ (53 = 34 ∧ f.toNat = 47) ∨ (53 = 71) ∨ (53 = 72) ∨ (53 = 53) from Or.inr (Or.inr (Or.inr (Or.inr (rfl)))))
        have s7 : m6.1 53 0 f.toNat = (1 : Int) := by rw [hm6]; exact wuI_self
        have w8 : m6.1 51 0 f.toNat = m0.1 51 0 f.toNat := by rw [hm6]; rfl
        have hRm6 : zRI m6 := by rw [hm6]; exact zRI_w53 (p := f) hR (zB_ct hG) (by omega) (by omega) (fun _ j z1 z2 => (hw (by omega)).2.2 j z1 (by omega))
        refine ww_go 2 (pc' := 72) (L' := [(3, .inl 0), (0, .inr (.inr (.inl (some (34, 0))))), (1, .inl f), (2, .inl w)]) (st' := []) (m' := m6) (o := none) rfl trivial ?_
        refine ww_sub (L := [(0, .inr (.inr (.inl (some (34, 0))))), (1, .inl f), (3, .inl 0)]) ⟨rfl, rfl, rfl, trivial⟩ rfl rfl ?_
        exact (zs216_l72 hc f hG hR h0 _).1 0 m6 rfl (zB_mono hGm6 (by omega)) hFm6 hRm6 (by omega)
      · show wW (zK sc) zM216 40 [(0, .inr (.inr (.inl (some (34, 0))))), (1, .inl f), (2, .inl w), (3, .inl i)] [] _ _ _
        have b9 : 0 ≤ m0.1 57 0 (((7 * f) + i).toNat) ∧ m0.1 57 0 (((7 * f) + i).toNat) ≤ 1 := hG.1 57 _ rfl _ _
        refine ww_go 11 (pc' := 26) (L' := [(3, .inl (i + 1)), (2, .inl (m0.1 57 0 (((7 * f) + i).toNat))), (0, .inr (.inr (.inl (some (34, 0))))), (1, .inl f)]) (st' := []) (m' := m0) (o := some ((0 < 1) ∧ (0 < 1 ∧ 0 ≤ (7 * f) + i ∧ (7 * f) + i < ((56 : Nat) : Int)))) rfl (show (0 < 1) ∧ (0 < 1 ∧ 0 ≤ (7 * f) + i ∧ (7 * f) + i < ((56 : Nat) : Int)) from by omega) ?_
        refine ww_sub (L := [(0, .inr (.inr (.inl (some (34, 0))))), (1, .inl f), (2, .inl (m0.1 57 0 (((7 * f) + i).toNat))), (3, .inl (i + 1))]) ⟨rfl, rfl, rfl, rfl, trivial⟩ rfl rfl ?_
        exact (ih _ (by omega)) (m0.1 57 0 (((7 * f) + i).toNat)) (i + 1) rfl (by omega) (by exact fun z => ⟨(hw (by omega)).1, (hw (by omega)).2.1, zHs_s (hw (by omega)).2.2 z⟩)
set_option maxRecDepth 8000 in
/-- Mo.judge -/
theorem zs216 {sc : xSc} {n : Nat × Nat} {m0 : wm} {c : Int} (hc : 0 ≤ c ∧ c ≤ 1000000) (f : Int) (hG : zB c m0) (hR : zRI m0) (h0 : 0 ≤ f ∧ f ≤ 7) : wX (zK sc) 216 [.inr (.inr (.inl (some (34, 0)))), .inl f] n m0 (wr (fun vv n1 m1 => vv = none ∧ n = n1 ∧ zB (c + 1) m1 ∧ zfr (fun k i j => (k = 34 ∧ j = 48) ∨ (k = 34 ∧ j = 47) ∨ (k = 71) ∨ (k = 72) ∨ (k = 53)) m0 m1 ∧ (zRI m1 ∧ (True)))) := by
  refine wX_of (N := zM216) rfl (Nat.le_of_ble_eq_true rfl) ?_
  show wW (zK sc) zM216 0 [(0, .inr (.inr (.inl (some (34, 0))))), (1, .inl f)] [] n m0 _
  have hF : zfr (fun k i j => (k = 34 ∧ j = 48) ∨ (k = 34 ∧ j = 47) ∨ (k = 71) ∨ (k = 72) ∨ (k = 53)) m0 m0 := zfr_rf
  have bg : 0 ≤ m0.1 51 0 f.toNat ∧ m0.1 51 0 f.toNat ≤ 1 := hG.1 51 _ rfl _ _
  have bv : 0 ≤ m0.1 53 0 f.toNat ∧ m0.1 53 0 f.toNat ≤ 2 := hG.1 53 _ rfl _ _
  have bc : 0 ≤ m0.1 52 0 f.toNat ∧ m0.1 52 0 f.toNat ≤ 6 := hG.1 52 _ rfl _ _
  have b1 : 0 ≤ m0.1 51 0 f.toNat ∧ m0.1 51 0 f.toNat ≤ 1 := hG.1 51 _ rfl _ _
  refine ww_go 4 (pc' := 6) (L' := [(0, .inr (.inr (.inl (some (34, 0))))), (1, .inl f)]) (st' := [.inl (m0.1 51 0 f.toNat)]) (m' := m0) (o := some ((0 < 1) ∧ (0 < 1 ∧ 0 ≤ f ∧ f < ((8 : Nat) : Int)))) rfl (show (0 < 1) ∧ (0 < 1 ∧ 0 ≤ f ∧ f < ((8 : Nat) : Int)) from by omega) ?_
  refine ww_if (t := 22) rfl rfl (by omega) (fun (h2 : m0.1 51 0 f.toNat = 0) => ?_) (fun (h2 : ¬ (m0.1 51 0 f.toNat = 0)) => ?_)
  · show wW (zK sc) zM216 22 [(0, .inr (.inr (.inl (some (34, 0))))), (1, .inl f)] [] _ _ _
    refine ww_go 4 (pc' := 26) (L' := [(3, .inl 1), (2, .inl 0), (0, .inr (.inr (.inl (some (34, 0))))), (1, .inl f)]) (st' := []) (m' := m0) (o := none) rfl trivial ?_
    refine ww_sub (L := [(0, .inr (.inr (.inl (some (34, 0))))), (1, .inl f), (2, .inl 0), (3, .inl 1)]) ⟨rfl, rfl, rfl, rfl, trivial⟩ rfl rfl ?_
    exact (zs216_l26 hc f hG hR h0 _) 0 1 rfl (by omega) (by intro z; omega)
  · show wW (zK sc) zM216 9 [(0, .inr (.inr (.inl (some (34, 0))))), (1, .inl f)] [] _ _ _
    have b3 : 0 ≤ m0.1 53 0 f.toNat ∧ m0.1 53 0 f.toNat ≤ 2 := hG.1 53 _ rfl _ _
    refine ww_go 4 (pc' := 15) (L' := [(0, .inr (.inr (.inl (some (34, 0))))), (1, .inl f)]) (st' := [.inl (m0.1 53 0 f.toNat)]) (m' := m0) (o := some ((0 < 1) ∧ (0 < 1 ∧ 0 ≤ f ∧ f < ((8 : Nat) : Int)))) rfl (show (0 < 1) ∧ (0 < 1 ∧ 0 ≤ f ∧ f < ((8 : Nat) : Int)) from by omega) ?_
    refine ww_if (t := 22) rfl rfl (by omega) (fun (h4 : m0.1 53 0 f.toNat ≠ 0) => ?_) (fun (h4 : ¬ (m0.1 53 0 f.toNat ≠ 0)) => ?_)
    · show wW (zK sc) zM216 22 [(0, .inr (.inr (.inl (some (34, 0))))), (1, .inl f)] [] _ _ _
      refine ww_go 4 (pc' := 26) (L' := [(3, .inl 1), (2, .inl 0), (0, .inr (.inr (.inl (some (34, 0))))), (1, .inl f)]) (st' := []) (m' := m0) (o := none) rfl trivial ?_
      refine ww_sub (L := [(0, .inr (.inr (.inl (some (34, 0))))), (1, .inl f), (2, .inl 0), (3, .inl 1)]) ⟨rfl, rfl, rfl, rfl, trivial⟩ rfl rfl ?_
      exact (zs216_l26 hc f hG hR h0 _) 0 1 rfl (by omega) (by intro z; omega)
    · show wW (zK sc) zM216 18 [(0, .inr (.inr (.inl (some (34, 0))))), (1, .inl f)] [] _ _ _
      refine ww_go 5 (pc' := 26) (L' := [(3, .inl 1), (2, .inl 1), (0, .inr (.inr (.inl (some (34, 0))))), (1, .inl f)]) (st' := []) (m' := m0) (o := none) rfl trivial ?_
      refine ww_sub (L := [(0, .inr (.inr (.inl (some (34, 0))))), (1, .inl f), (2, .inl 1), (3, .inl 1)]) ⟨rfl, rfl, rfl, rfl, trivial⟩ rfl rfl ?_
      exact (zs216_l26 hc f hG hR h0 _) 1 1 rfl (by omega) (by exact fun _ => ⟨by omega, by omega, zHs_1⟩)
set_option maxRecDepth 8000 in
theorem zs246_l3 {sc : xSc} {n : Nat × Nat} {m0 : wm} {c : Int} (hc : 0 ≤ c ∧ c ≤ 1000000) (b : Int) (y : Int) (f : Int) (i : Int) (hG : zB c m0) (hR : zRI m0) (h0 : 0 ≤ f ∧ f ≤ 7 ∧ 0 ≤ i ∧ i ≤ 6 ∧ 0 ≤ b ∧ b ≤ 1 ∧ 1 ≤ y ∧ y ≤ 8) (hg : 1 ≤ i ∨ m0.1 51 0 f.toNat ≠ 1) : ∀ (d : Nat), (∀ (t : Int) (m : wm), (8 - t).toNat * 100 + 99 = d → zB c m → zfr (fun k i j => (k = 58) ∨ (k = 59) ∨ (k = 60) ∨ (k = 61) ∨ (k = 34 ∧ j = 30) ∨ (k = 56) ∨ (k = 55)) m0 m → zRI m → (0 ≤ t ∧ t ≤ 8 ∧ m.1 51 0 f.toNat = m0.1 51 0 f.toNat) →  wW (zK sc) zM246 3 [(0, .inr (.inr (.inl (some (34, 0))))), (1, .inl (7 * f + i)), (2, .inl b), (3, .inl y), (4, .inl t)] [] n m (wr (fun vv n1 m1 => vv = none ∧ n = n1 ∧ zB c m1 ∧ zfr (fun k i j => (k = 58) ∨ (k = 59) ∨ (k = 60) ∨ (k = 61) ∨ (k = 34 ∧ j = 30) ∨ (k = 56) ∨ (k = 55)) m0 m1 ∧ (zRI m1 ∧ (m1.1 55 0 ((2 * (7 * f + i) + b).toNat) = 1))))) ∧ (∀ (t : Int) (v : Int64) (k : Int) (m : wm), (8 - t).toNat * 100 + (8 - k).toNat = d → zB c m → zfr (fun k i j => (k = 58) ∨ (k = 59) ∨ (k = 60) ∨ (k = 61) ∨ (k = 34 ∧ j = 30) ∨ (k = 56) ∨ (k = 55)) m0 m → zRI m → (0 ≤ t ∧ t ≤ 8 ∧ m.1 51 0 f.toNat = m0.1 51 0 f.toNat ∧ t ≤ 7 ∧ 0 ≤ k ∧ k ≤ 8) →  wW (zK sc) zM246 30 [(0, .inr (.inr (.inl (some (34, 0))))), (1, .inl (7 * f + i)), (2, .inl b), (3, .inl y), (4, .inl t), (5, .inr (.inl v)), (7, .inl k)] [] n m (wr (fun vv n1 m1 => vv = none ∧ n = n1 ∧ zB c m1 ∧ zfr (fun k i j => (k = 58) ∨ (k = 59) ∨ (k = 60) ∨ (k = 61) ∨ (k = 34 ∧ j = 30) ∨ (k = 56) ∨ (k = 55)) m0 m1 ∧ (zRI m1 ∧ (m1.1 55 0 ((2 * (7 * f + i) + b).toNat) = 1))))) := by
  intro d
  induction d using Nat.strongRecOn with
  | ind d ih =>
    refine ⟨?_, ?_⟩
    · intro t m hd hGm hFm hRm hi
      refine ww_go 2 (pc' := 6) (L' := [(0, .inr (.inr (.inl (some (34, 0))))), (1, .inl (7 * f + i)), (2, .inl b), (3, .inl y), (4, .inl t)]) (st' := [.inl y, .inl t]) (m' := m) (o := none) rfl trivial ?_
      refine ww_ic (t := 99) rfl rfl (by omega) (fun (h1 : y ≤ t) => ?_) (fun (h1 : ¬ (y ≤ t)) => ?_)
      · show wW (zK sc) zM246 99 [(0, .inr (.inr (.inl (some (34, 0))))), (1, .inl (7 * f + i)), (2, .inl b), (3, .inl y), (4, .inl t)] [] _ _ _
        refine ww_go 4 (pc' := 103) (L' := [(0, .inr (.inr (.inl (some (34, 0))))), (1, .inl (7 * f + i)), (2, .inl b), (3, .inl y), (4, .inl t)]) (st' := [.inl b, .inl (7 * f + i), .inl (7 * f + i), .inr (.inr (.inl (some (34, 0))))]) (m' := m) (o := none) rfl trivial ?_
        refine ww_call (vs := [.inr (.inr (.inl (some (34, 0)))), .inl (7 * f + i), .inl (7 * f + i), .inl b]) (r := []) (p := 0 < 1) rfl rfl rfl rfl (show 0 < 1 from by omega) (zs192 (c := c) (by omega) (7 * f + i) (7 * f + i) b hGm (by omega)) ?_
        rintro _ _ m4 ⟨rfl, rfl, hGm4, hEm4, hr3⟩
        have hFm4 : zfr (fun k i j => (k = 58) ∨ (k = 59) ∨ (k = 60) ∨ (k = 61) ∨ (k = 34 ∧ j = 30) ∨ (k = 56) ∨ (k = 55)) m0 m4 := zfr_tr hFm hEm4 (fun k i j z => Or.elim z (fun z => Or.inl z) (fun z => Or.elim z (fun z => Or.inr (Or.inl z)) (fun z => Or.elim z (fun z => Or.inr (Or.inr (Or.inl z))) (fun z => Or.elim z (fun z => Or.inr (Or.inr (Or.inr (Or.inl z)))) (fun z => Or.inr (Or.inr (Or.inr (Or.inr (Or.inl z)))))))))
        have w5 : m4.1 51 0 f.toNat = m.1 51 0 f.toNat := (hEm4 51 0 f.toNat (show ¬ ((51 = 58) ∨ (51 = 59) ∨ (51 = 60) ∨ (51 = 61) ∨ (51 = 34 ∧ f.toNat = 30)) from by omega)).1
        have hRm4 : zRI m4 := zRI_fr hRm hEm4 (fun k j hk => (show ¬ ((k = 58) ∨ (k = 59) ∨ (k = 60) ∨ (k = 61) ∨ (k = 34 ∧ j = 30)) from by omega))
        show wW (zK sc) zM246 106 [(0, .inr (.inr (.inl (some (34, 0))))), (1, .inl (7 * f + i)), (2, .inl b), (3, .inl y), (4, .inl t)] [] _ _ _
        refine ww_go 9 (pc' := 117) (L' := [(0, .inr (.inr (.inl (some (34, 0))))), (1, .inl (7 * f + i)), (2, .inl b), (3, .inl y), (4, .inl t)]) (st' := []) (m' := wuI m4 55 0 (((2 * (7 * f + i)) + b).toNat) 1) (o := some ((0 < 1) ∧ (0 < 1 ∧ 0 ≤ (2 * (7 * f + i)) + b ∧ (2 * (7 * f + i)) + b < ((112 : Nat) : Int) ∧ 0 ≤ (1 : Int) ∧ (1 : Int) ≤ 1))) rfl (show (0 < 1) ∧ (0 < 1 ∧ 0 ≤ (2 * (7 * f + i)) + b ∧ (2 * (7 * f + i)) + b < ((112 : Nat) : Int) ∧ 0 ≤ (1 : Int) ∧ (1 : Int) ≤ 1) from by omega) ?_
        obtain ⟨m6, hm6⟩ : ∃ zq9 : wm, zq9 = wuI m4 55 0 (((2 * (7 * f + i)) + b).toNat) 1 := ⟨_, rfl⟩
        rw [← hm6]
        have hGm6 : zB c m6 := by rw [hm6]; exact zB_wI rfl (show 0 ≤ (1 : Int) ∧ (1 : Int) ≤ 1 from by omega) hGm4
        have hFm6 : zfr (fun k i j => (k = 58) ∨ (k = 59) ∨ (k = 60) ∨ (k = 61) ∨ (k = 34 ∧ j = 30) ∨ (k = 56) ∨ (k = 55)) m0 m6 := by rw [hm6]; exact zfr_wI hFm4 (show (55 = 58) ∨ (55 = 59) ∨ (55 = 60) ∨ (55 = 61) ∨ (55 = 34 ∧ (((2 * (7 * f + i)) + b).toNat) = 30) ∨ (55 = 56) ∨ (55 = 55) from Or.inr (Or.inr (Or.inr (Or.inr (Or.inr (Or.inr (rfl)))))))
        have s7 : m6.1 55 0 (((2 * (7 * f + i)) + b).toNat) = (1 : Int) := by rw [hm6]; exact wuI_self
        have w8 : m6.1 51 0 f.toNat = m4.1 51 0 f.toNat := by rw [hm6]; rfl
        have hRm6 : zRI m6 := by rw [hm6]; exact zRI_w55 (p := f) (i := i) (b := b) hRm4 (zB_ct hGm4) (by omega) (Or.inl rfl)
        exact ww_rV rfl rfl ⟨rfl, rfl, zB_mono hGm6 (by omega), hFm6, ⟨hRm6, by omega⟩⟩
      · show wW (zK sc) zM246 9 [(0, .inr (.inr (.inl (some (34, 0))))), (1, .inl (7 * f + i)), (2, .inl b), (3, .inl y), (4, .inl t)] [] _ _ _
        have t9 := wshl_rg 1 t
        have t10 : 0 ≤ t ∧ t ≤ 30 → 1 ≤ wshl 1 t := wshl1_rg
        refine ww_go 9 (pc' := 19) (L' := [(0, .inr (.inr (.inl (some (34, 0))))), (1, .inl (7 * f + i)), (2, .inl b), (3, .inl y), (4, .inl t)]) (st' := [.inl (wshl 1 t), .inl b, .inl (7 * f + i), .inr (.inr (.inl (some (34, 0)))), .inl b, .inl (7 * f + i), .inr (.inr (.inl (some (34, 0))))]) (m' := m) (o := none) rfl trivial ?_
        refine ww_call (vs := [.inr (.inr (.inl (some (34, 0)))), .inl (7 * f + i), .inl b, .inl (wshl 1 t)]) (r := [.inl b, .inl (7 * f + i), .inr (.inr (.inl (some (34, 0))))]) (p := 0 < 1) rfl rfl rfl rfl (show 0 < 1 from by omega) (zs247 (c := c) (by omega) (7 * f + i) b (wshl 1 t) hGm (by omega)) ?_
        rintro _ _ _ ⟨r11, rfl, rfl, rfl, hr12⟩
        show wW (zK sc) zM246 22 [(0, .inr (.inr (.inl (some (34, 0))))), (1, .inl (7 * f + i)), (2, .inl b), (3, .inl y), (4, .inl t)] [.inl r11, .inl b, .inl (7 * f + i), .inr (.inr (.inl (some (34, 0))))] _ _ _
        refine ww_call (vs := [.inr (.inr (.inl (some (34, 0)))), .inl (7 * f + i), .inl b, .inl r11]) (r := []) (p := 0 < 1) rfl rfl rfl rfl (show 0 < 1 from by omega) (zs251 (c := c) (by omega) (7 * f + i) b r11 hGm (by omega)) ?_
        rintro _ _ _ ⟨r13, rfl, rfl, rfl, hr14⟩
        show wW (zK sc) zM246 25 [(0, .inr (.inr (.inl (some (34, 0))))), (1, .inl (7 * f + i)), (2, .inl b), (3, .inl y), (4, .inl t)] [.inr (.inl r13)] _ _ _
        refine ww_go 3 (pc' := 30) (L' := [(7, .inl 0), (5, .inr (.inl r13)), (0, .inr (.inr (.inl (some (34, 0))))), (1, .inl (7 * f + i)), (2, .inl b), (3, .inl y), (4, .inl t)]) (st' := []) (m' := m) (o := none) rfl trivial ?_
        refine ww_sub (L := [(0, .inr (.inr (.inl (some (34, 0))))), (1, .inl (7 * f + i)), (2, .inl b), (3, .inl y), (4, .inl t), (5, .inr (.inl r13)), (7, .inl 0)]) ⟨rfl, rfl, rfl, rfl, rfl, rfl, rfl, trivial⟩ rfl rfl ?_
        exact (ih _ (by omega)).2 t r13 0 m rfl (zB_mono hGm (by omega)) hFm hRm (by omega)
    · intro t v k m hd hGm hFm hRm hi
      refine ww_go 2 (pc' := 34) (L' := [(0, .inr (.inr (.inl (some (34, 0))))), (1, .inl (7 * f + i)), (2, .inl b), (3, .inl y), (4, .inl t), (5, .inr (.inl v)), (7, .inl k)]) (st' := [.inl 8, .inl k]) (m' := m) (o := none) rfl trivial ?_
      refine ww_ic (t := 93) rfl rfl (by omega) (fun (h1 : 8 ≤ k) => ?_) (fun (h1 : ¬ (8 ≤ k)) => ?_)
      · show wW (zK sc) zM246 93 [(0, .inr (.inr (.inl (some (34, 0))))), (1, .inl (7 * f + i)), (2, .inl b), (3, .inl y), (4, .inl t), (5, .inr (.inl v)), (7, .inl k)] [] _ _ _
        refine ww_go 2 (pc' := 3) (L' := [(4, .inl (t + 1)), (0, .inr (.inr (.inl (some (34, 0))))), (1, .inl (7 * f + i)), (2, .inl b), (3, .inl y), (5, .inr (.inl v)), (7, .inl k)]) (st' := []) (m' := m) (o := none) rfl trivial ?_
        refine ww_sub (L := [(0, .inr (.inr (.inl (some (34, 0))))), (1, .inl (7 * f + i)), (2, .inl b), (3, .inl y), (4, .inl (t + 1))]) ⟨rfl, rfl, rfl, rfl, rfl, trivial⟩ rfl rfl ?_
        exact (ih _ (by omega)).1 (t + 1) m rfl (zB_mono hGm (by omega)) hFm hRm (by omega)
      · show wW (zK sc) zM246 37 [(0, .inr (.inr (.inl (some (34, 0))))), (1, .inl (7 * f + i)), (2, .inl b), (3, .inl y), (4, .inl t), (5, .inr (.inl v)), (7, .inl k)] [] _ _ _
        refine ww_go 12 (pc' := 56) (L' := [(8, .inl (((64 * b) + (8 * t)) + k)), (0, .inr (.inr (.inl (some (34, 0))))), (1, .inl (7 * f + i)), (2, .inl b), (3, .inl y), (4, .inl t), (5, .inr (.inl v)), (7, .inl k)]) (st' := [.inl 104, .inl (((64 * b) + (8 * t)) + k)]) (m' := m) (o := none) rfl trivial ?_
        refine ww_ic (t := 87) rfl rfl (by omega) (fun (h2 : 104 ≤ ((64 * b) + (8 * t)) + k) => ?_) (fun (h2 : ¬ (104 ≤ ((64 * b) + (8 * t)) + k)) => ?_)
        · show wW (zK sc) zM246 87 [(8, .inl (((64 * b) + (8 * t)) + k)), (0, .inr (.inr (.inl (some (34, 0))))), (1, .inl (7 * f + i)), (2, .inl b), (3, .inl y), (4, .inl t), (5, .inr (.inl v)), (7, .inl k)] [] _ _ _
          refine ww_go 2 (pc' := 30) (L' := [(7, .inl (k + 1)), (8, .inl (((64 * b) + (8 * t)) + k)), (0, .inr (.inr (.inl (some (34, 0))))), (1, .inl (7 * f + i)), (2, .inl b), (3, .inl y), (4, .inl t), (5, .inr (.inl v))]) (st' := []) (m' := m) (o := none) rfl trivial ?_
          refine ww_sub (L := [(0, .inr (.inr (.inl (some (34, 0))))), (1, .inl (7 * f + i)), (2, .inl b), (3, .inl y), (4, .inl t), (5, .inr (.inl v)), (7, .inl (k + 1))]) ⟨rfl, rfl, rfl, rfl, rfl, rfl, rfl, trivial⟩ rfl rfl ?_
          exact (ih _ (by omega)).2 t v (k + 1) m rfl (zB_mono hGm (by omega)) hFm hRm (by omega)
        · show wW (zK sc) zM246 59 [(8, .inl (((64 * b) + (8 * t)) + k)), (0, .inr (.inr (.inl (some (34, 0))))), (1, .inl (7 * f + i)), (2, .inl b), (3, .inl y), (4, .inl t), (5, .inr (.inl v)), (7, .inl k)] [] _ _ _
          have t3 := wl2i_rg ((v >>> (wi2l (56 - (8 * k)) &&& 63)) &&& (Int64.ofInt 255))
          have t4 := wl2i_255 (v >>> (wi2l (56 - (8 * k)) &&& 63))
          refine ww_go 18 (pc' := 87) (L' := [(8, .inl (((64 * b) + (8 * t)) + k)), (0, .inr (.inr (.inl (some (34, 0))))), (1, .inl (7 * f + i)), (2, .inl b), (3, .inl y), (4, .inl t), (5, .inr (.inl v)), (7, .inl k)]) (st' := []) (m' := wuI m 56 0 (((104 * (7 * f + i)) + (((64 * b) + (8 * t)) + k)).toNat) (wl2i ((v >>> (wi2l (56 - (8 * k)) &&& 63)) &&& (Int64.ofInt 255)))) (o := some ((0 < 1) ∧ (0 < 1 ∧ 0 ≤ (104 * (7 * f + i)) + (((64 * b) + (8 * t)) + k) ∧ (104 * (7 * f + i)) + (((64 * b) + (8 * t)) + k) < ((5824 : Nat) : Int)))) rfl (show (0 < 1) ∧ (0 < 1 ∧ 0 ≤ (104 * (7 * f + i)) + (((64 * b) + (8 * t)) + k) ∧ (104 * (7 * f + i)) + (((64 * b) + (8 * t)) + k) < ((5824 : Nat) : Int)) from by omega) ?_
          obtain ⟨m5, hm5⟩ : ∃ zq9 : wm, zq9 = wuI m 56 0 (((104 * (7 * f + i)) + (((64 * b) + (8 * t)) + k)).toNat) (wl2i ((v >>> (wi2l (56 - (8 * k)) &&& 63)) &&& (Int64.ofInt 255))) := ⟨_, rfl⟩
          rw [← hm5]
          have hGm5 : zB c m5 := by rw [hm5]; exact zB_wI rfl (show 0 ≤ wl2i ((v >>> (wi2l (56 - (8 * k)) &&& 63)) &&& (Int64.ofInt 255)) ∧ wl2i ((v >>> (wi2l (56 - (8 * k)) &&& 63)) &&& (Int64.ofInt 255)) ≤ 255 from by omega) hGm
          have hFm5 : zfr (fun k i j => (k = 58) ∨ (k = 59) ∨ (k = 60) ∨ (k = 61) ∨ (k = 34 ∧ j = 30) ∨ (k = 56) ∨ (k = 55)) m0 m5 := by rw [hm5]; exact zfr_wI hFm (show (56 = 58) ∨ (56 = 59) ∨ (56 = 60) ∨ (56 = 61) ∨ (56 = 34 ∧ (((104 * (7 * f + i)) + (((64 * b) + (8 * t)) + k)).toNat) = 30) ∨ (56 = 56) ∨ (56 = 55) from Or.inr (Or.inr (Or.inr (Or.inr (Or.inr (Or.inl rfl))))))
          have s6 : m5.1 56 0 (((104 * (7 * f + i)) + (((64 * b) + (8 * t)) + k)).toNat) = wl2i ((v >>> (wi2l (56 - (8 * k)) &&& 63)) &&& (Int64.ofInt 255)) := by rw [hm5]; exact wuI_self
          have w7 : m5.1 51 0 f.toNat = m.1 51 0 f.toNat := by rw [hm5]; rfl
          have hRm5 : zRI m5 := by rw [hm5]; exact zRI_w56 (p := f) (i := i) (a := (((64 * b) + (8 * t)) + k)) hRm (zB_ct hGm) (by omega) (hg.imp id (fun z => by omega))
          refine ww_go 2 (pc' := 30) (L' := [(7, .inl (k + 1)), (8, .inl (((64 * b) + (8 * t)) + k)), (0, .inr (.inr (.inl (some (34, 0))))), (1, .inl (7 * f + i)), (2, .inl b), (3, .inl y), (4, .inl t), (5, .inr (.inl v))]) (st' := []) (m' := m5) (o := none) rfl trivial ?_
          refine ww_sub (L := [(0, .inr (.inr (.inl (some (34, 0))))), (1, .inl (7 * f + i)), (2, .inl b), (3, .inl y), (4, .inl t), (5, .inr (.inl v)), (7, .inl (k + 1))]) ⟨rfl, rfl, rfl, rfl, rfl, rfl, rfl, trivial⟩ rfl rfl ?_
          exact (ih _ (by omega)).2 t v (k + 1) m5 rfl (zB_mono hGm5 (by omega)) hFm5 hRm5 (by omega)
set_option maxRecDepth 8000 in
/-- Mo.solve -/
theorem zs246 {sc : xSc} {n : Nat × Nat} {m0 : wm} {c : Int} (hc : 0 ≤ c ∧ c ≤ 1000000) (b : Int) (y : Int) (f : Int) (i : Int) (hG : zB c m0) (hR : zRI m0) (h0 : 0 ≤ f ∧ f ≤ 7 ∧ 0 ≤ i ∧ i ≤ 6 ∧ 0 ≤ b ∧ b ≤ 1 ∧ 1 ≤ y ∧ y ≤ 8) (hg : 1 ≤ i ∨ m0.1 51 0 f.toNat ≠ 1) : wX (zK sc) 246 [.inr (.inr (.inl (some (34, 0)))), .inl (7 * f + i), .inl b, .inl y] n m0 (wr (fun vv n1 m1 => vv = none ∧ n = n1 ∧ zB c m1 ∧ zfr (fun k i j => (k = 58) ∨ (k = 59) ∨ (k = 60) ∨ (k = 61) ∨ (k = 34 ∧ j = 30) ∨ (k = 56) ∨ (k = 55)) m0 m1 ∧ (zRI m1 ∧ (m1.1 55 0 ((2 * (7 * f + i) + b).toNat) = 1)))) := by
  refine wX_of (N := zM246) rfl (Nat.le_of_ble_eq_true rfl) ?_
  show wW (zK sc) zM246 0 [(0, .inr (.inr (.inl (some (34, 0))))), (1, .inl (7 * f + i)), (2, .inl b), (3, .inl y)] [] n m0 _
  have hF : zfr (fun k i j => (k = 58) ∨ (k = 59) ∨ (k = 60) ∨ (k = 61) ∨ (k = 34 ∧ j = 30) ∨ (k = 56) ∨ (k = 55)) m0 m0 := zfr_rf
  refine ww_go 2 (pc' := 3) (L' := [(4, .inl 0), (0, .inr (.inr (.inl (some (34, 0))))), (1, .inl (7 * f + i)), (2, .inl b), (3, .inl y)]) (st' := []) (m' := m0) (o := none) rfl trivial ?_
  refine ww_sub (L := [(0, .inr (.inr (.inl (some (34, 0))))), (1, .inl (7 * f + i)), (2, .inl b), (3, .inl y), (4, .inl 0)]) ⟨rfl, rfl, rfl, rfl, rfl, trivial⟩ rfl rfl ?_
  exact (zs246_l3 hc b y f i hG hR h0 hg _).1 0 m0 rfl (zB_mono hG (by omega)) hF hR (by omega)
