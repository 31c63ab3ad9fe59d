set_option maxRecDepth 8000 in
theorem yt189_l33 {sc : xSc} {n : Nat × Nat} {m0 : wm} {c : Int} (hc : 0 ≤ c ∧ c ≤ 1000000) (f : Int) (i : Int) (hG : zB c m0) (hR : zRI m0) (h0 : 0 ≤ f ∧ f ≤ 7 ∧ 1 ≤ i ∧ i ≤ 6 ∧ m0.1 51 0 f.toNat = 1) : ∀ (d : Nat), ∀ (v : Int64) (k : Int), (104 - k).toNat = d → (0 ≤ k ∧ k ≤ m0.1 54 0 ((7 * f + i).toNat)) → (m0.1 51 0 f.toNat = 1 ∧ 0 ≤ m0.1 54 0 ((7 * f + i).toNat) ∧ m0.1 55 0 ((2 * (7 * f + i)).toNat) = 1 ∧ m0.1 57 0 ((7 * f + i).toNat) ≠ 1) → (zCmR m0 (7 * f + i)) → (v = zhh (fun k : Nat => m0.1 56 0 (104 * (7 * f + i) + (k : Int)).toNat) k.toNat) →  wW (zK sc) zM189 33 [(0, .inr (.inr (.inl (some (34, 0))))), (1, .inl f), (2, .inl i), (3, .inl (7 * f + i)), (4, .inr (.inl v)), (6, .inl k)] [] n m0 (wr (fun vv n1 m1 => vv = none ∧ n = n1 ∧ zB c m1 ∧ zfr (fun k i j => (k = 58) ∨ (k = 59) ∨ (k = 60) ∨ (k = 61) ∨ (k = 34 ∧ j = 30) ∨ (k = 54) ∨ (k = 55) ∨ (k = 57)) m0 m1 ∧ (zRI m1 ∧ (zCo1 m0 m1 f i)))) := by
  intro d
  induction d using Nat.strongRecOn with
  | ind d ih =>
    intro v k hd hi hp hq hv
    have bz : -1 ≤ m0.1 54 0 ((7 * f + i).toNat) ∧ m0.1 54 0 ((7 * f + i).toNat) ≤ 104 := hG.1 54 _ rfl _ _
    have bc : 0 ≤ m0.1 52 0 f.toNat ∧ m0.1 52 0 f.toNat ≤ 6 := hG.1 52 _ rfl _ _
    have hF : zfr (fun k i j => (k = 58) ∨ (k = 59) ∨ (k = 60) ∨ (k = 61) ∨ (k = 34 ∧ j = 30) ∨ (k = 54) ∨ (k = 55) ∨ (k = 57)) m0 m0 := zfr_rf
    have b1 : (-1) ≤ m0.1 54 0 ((7 * f + i).toNat) ∧ m0.1 54 0 ((7 * f + i).toNat) ≤ 104 := hG.1 54 _ rfl _ _
    refine ww_go 5 (pc' := 41) (L' := [(0, .inr (.inr (.inl (some (34, 0))))), (1, .inl f), (2, .inl i), (3, .inl (7 * f + i)), (4, .inr (.inl v)), (6, .inl k)]) (st' := [.inl (m0.1 54 0 ((7 * f + i).toNat)), .inl k]) (m' := m0) (o := some ((0 < 1) ∧ (0 < 1 ∧ 0 ≤ 7 * f + i ∧ 7 * f + i < ((56 : Nat) : Int)))) rfl (show (0 < 1) ∧ (0 < 1 ∧ 0 ≤ 7 * f + i ∧ 7 * f + i < ((56 : Nat) : Int)) from by omega) ?_
    refine ww_ic (t := 64) rfl rfl (by omega) (fun (h2 : m0.1 54 0 ((7 * f + i).toNat) ≤ k) => ?_) (fun (h2 : ¬ (m0.1 54 0 ((7 * f + i).toNat) ≤ k)) => ?_)
    · show wW (zK sc) zM189 64 [(0, .inr (.inr (.inl (some (34, 0))))), (1, .inl f), (2, .inl i), (3, .inl (7 * f + i)), (4, .inr (.inl v)), (6, .inl k)] [] _ _ _
      have b3 : 0 ≤ m0.1 52 0 f.toNat ∧ m0.1 52 0 f.toNat ≤ 6 := hG.1 52 _ rfl _ _
      refine ww_go 5 (pc' := 71) (L' := [(0, .inr (.inr (.inl (some (34, 0))))), (1, .inl f), (2, .inl i), (3, .inl (7 * f + i)), (4, .inr (.inl v)), (6, .inl k)]) (st' := [.inl (m0.1 52 0 f.toNat), .inl i]) (m' := m0) (o := some ((0 < 1) ∧ (0 < 1 ∧ 0 ≤ f ∧ f < ((8 : Nat) : Int)))) rfl (show (0 < 1) ∧ (0 < 1 ∧ 0 ≤ f ∧ f < ((8 : Nat) : Int)) from by omega) ?_
      refine ww_ic (t := 111) rfl rfl (by omega) (fun (h4 : m0.1 52 0 f.toNat < i) => ?_) (fun (h4 : ¬ (m0.1 52 0 f.toNat < i)) => ?_)
      · show wW (zK sc) zM189 111 [(0, .inr (.inr (.inl (some (34, 0))))), (1, .inl f), (2, .inl i), (3, .inl (7 * f + i)), (4, .inr (.inl v)), (6, .inl k)] [] _ _ _
        refine ww_go 2 (pc' := 113) (L' := [(0, .inr (.inr (.inl (some (34, 0))))), (1, .inl f), (2, .inl i), (3, .inl (7 * f + i)), (4, .inr (.inl v)), (6, .inl k)]) (st' := [.inl (7 * f + i), .inr (.inr (.inl (some (34, 0))))]) (m' := m0) (o := none) rfl trivial ?_
        refine ww_call (vs := [.inr (.inr (.inl (some (34, 0)))), .inl (7 * f + i)]) (r := []) (p := 0 < 1) rfl rfl rfl rfl (show 0 < 1 from by omega) (yt199 (c := c) (by omega) (7 * f + i) hG (by omega)) ?_
        rintro _ _ m7 ⟨rfl, rfl, hGm7, hEm7, hr6⟩
        have hFm7 : zfr (fun k i j => (k = 58) ∨ (k = 59) ∨ (k = 60) ∨ (k = 61) ∨ (k = 34 ∧ j = 30) ∨ (k = 54) ∨ (k = 55) ∨ (k = 57)) m0 m7 := zfr_tr hF hEm7 (fun k i j z => Or.elim z (fun z => Or.inl z) (fun z => Or.elim z (fun z => Or.inr (Or.inl z)) (fun z => Or.elim z (fun z => Or.inr (Or.inr (Or.inl z))) (fun z => Or.elim z (fun z => Or.inr (Or.inr (Or.inr (Or.inl z)))) (fun z => Or.elim z (fun z => Or.inr (Or.inr (Or.inr (Or.inr (Or.inl z))))) (fun z => Or.elim z (fun z => Or.inr (Or.inr (Or.inr (Or.inr (Or.inr (Or.inl z)))))) (fun z => Or.elim z (fun z => Or.inr (Or.inr (Or.inr (Or.inr (Or.inr (Or.inr (Or.inl z))))))) (fun z => Or.inr (Or.inr (Or.inr (Or.inr (Or.inr (Or.inr (Or.inr (z)))))))))))))))
        have hRm7 : zRI m7 := zRI_fg (p := f) (i := i) hR (zB_ct hG) (by omega) (by omega) (by omega) (by omega) hr6.1 (by funext j; exact (hEm7 51 0 j (show ¬ ((51 = 58) ∨ (51 = 59) ∨ (51 = 60) ∨ (51 = 61) ∨ (51 = 34 ∧ j = 30) ∨ (51 = 54) ∨ (51 = 55) ∨ (51 = 57)) from by omega)).1) (by funext j; exact (hEm7 52 0 j (show ¬ ((52 = 58) ∨ (52 = 59) ∨ (52 = 60) ∨ (52 = 61) ∨ (52 = 34 ∧ j = 30) ∨ (52 = 54) ∨ (52 = 55) ∨ (52 = 57)) from by omega)).1) (by funext j; exact (hEm7 53 0 j (show ¬ ((53 = 58) ∨ (53 = 59) ∨ (53 = 60) ∨ (53 = 61) ∨ (53 = 34 ∧ j = 30) ∨ (53 = 54) ∨ (53 = 55) ∨ (53 = 57)) from by omega)).1) (by funext j; exact (hEm7 56 0 j (show ¬ ((56 = 58) ∨ (56 = 59) ∨ (56 = 60) ∨ (56 = 61) ∨ (56 = 34 ∧ j = 30) ∨ (56 = 54) ∨ (56 = 55) ∨ (56 = 57)) from by omega)).1) (Or.inl (by omega)) (Or.inl (by omega))
        show wW (zK sc) zM189 116 [(0, .inr (.inr (.inl (some (34, 0))))), (1, .inl f), (2, .inl i), (3, .inl (7 * f + i)), (4, .inr (.inl v)), (6, .inl k)] [] _ _ _
        exact ww_rV rfl rfl ⟨rfl, rfl, zB_mono hGm7 (by omega), hFm7, ⟨hRm7, Or.inr ⟨hq, hp.2.2.2, Or.inr ⟨fun ⟨z1, z2, z3⟩ => absurd z1 (by omega), zfr_tr zfr_rf hEm7 (fun k i j z => z), hr6.1, hr6.2⟩⟩⟩⟩
      · show wW (zK sc) zM189 74 [(0, .inr (.inr (.inl (some (34, 0))))), (1, .inl f), (2, .inl i), (3, .inl (7 * f + i)), (4, .inr (.inl v)), (6, .inl k)] [] _ _ _
        have b8 : (-1) ≤ m0.1 54 0 ((7 * f + i).toNat) ∧ m0.1 54 0 ((7 * f + i).toNat) ≤ 104 := hG.1 54 _ rfl _ _
        refine ww_go 7 (pc' := 83) (L' := [(0, .inr (.inr (.inl (some (34, 0))))), (1, .inl f), (2, .inl i), (3, .inl (7 * f + i)), (4, .inr (.inl v)), (6, .inl k)]) (st' := [.inl i, .inl f, .inr (.inr (.inl (some (34, 0)))), .inl (m0.1 54 0 ((7 * f + i).toNat))]) (m' := m0) (o := some ((0 < 1) ∧ (0 < 1 ∧ 0 ≤ 7 * f + i ∧ 7 * f + i < ((56 : Nat) : Int)))) rfl (show (0 < 1) ∧ (0 < 1 ∧ 0 ≤ 7 * f + i ∧ 7 * f + i < ((56 : Nat) : Int)) from by omega) ?_
        refine ww_call (vs := [.inr (.inr (.inl (some (34, 0)))), .inl f, .inl i]) (r := [.inl (m0.1 54 0 ((7 * f + i).toNat))]) (p := 0 < 1) rfl rfl rfl rfl (show 0 < 1 from by omega) (yt245 (c := c) (by omega) f i _ hG (by omega) (zRI_mf hR (by omega) (by omega))) ?_
        rintro _ _ _ ⟨r9, rfl, rfl, rfl, hr10⟩
        show wW (zK sc) zM189 86 [(0, .inr (.inr (.inl (some (34, 0))))), (1, .inl f), (2, .inl i), (3, .inl (7 * f + i)), (4, .inr (.inl v)), (6, .inl k)] [.inl r9, .inl (m0.1 54 0 ((7 * f + i).toNat))] _ _ _
        refine ww_ic (t := 111) rfl rfl (by omega) (fun (h11 : m0.1 54 0 ((7 * f + i).toNat) ≠ r9) => ?_) (fun (h11 : ¬ (m0.1 54 0 ((7 * f + i).toNat) ≠ r9)) => ?_)
        · show wW (zK sc) zM189 111 [(0, .inr (.inr (.inl (some (34, 0))))), (1, .inl f), (2, .inl i), (3, .inl (7 * f + i)), (4, .inr (.inl v)), (6, .inl k)] [] _ _ _
          refine ww_go 2 (pc' := 113) (L' := [(0, .inr (.inr (.inl (some (34, 0))))), (1, .inl f), (2, .inl i), (3, .inl (7 * f + i)), (4, .inr (.inl v)), (6, .inl k)]) (st' := [.inl (7 * f + i), .inr (.inr (.inl (some (34, 0))))]) (m' := m0) (o := none) rfl trivial ?_
          refine ww_call (vs := [.inr (.inr (.inl (some (34, 0)))), .inl (7 * f + i)]) (r := []) (p := 0 < 1) rfl rfl rfl rfl (show 0 < 1 from by omega) (yt199 (c := c) (by omega) (7 * f + i) hG (by omega)) ?_
          rintro _ _ m14 ⟨rfl, rfl, hGm14, hEm14, hr13⟩
          have hFm14 : zfr (fun k i j => (k = 58) ∨ (k = 59) ∨ (k = 60) ∨ (k = 61) ∨ (k = 34 ∧ j = 30) ∨ (k = 54) ∨ (k = 55) ∨ (k = 57)) m0 m14 := zfr_tr hF hEm14 (fun k i j z => Or.elim z (fun z => Or.inl z) (fun z => Or.elim z (fun z => Or.inr (Or.inl z)) (fun z => Or.elim z (fun z => Or.inr (Or.inr (Or.inl z))) (fun z => Or.elim z (fun z => Or.inr (Or.inr (Or.inr (Or.inl z)))) (fun z => Or.elim z (fun z => Or.inr (Or.inr (Or.inr (Or.inr (Or.inl z))))) (fun z => Or.elim z (fun z => Or.inr (Or.inr (Or.inr (Or.inr (Or.inr (Or.inl z)))))) (fun z => Or.elim z (fun z => Or.inr (Or.inr (Or.inr (Or.inr (Or.inr (Or.inr (Or.inl z))))))) (fun z => Or.inr (Or.inr (Or.inr (Or.inr (Or.inr (Or.inr (Or.inr (z)))))))))))))))
          have hRm14 : zRI m14 := zRI_fg (p := f) (i := i) hR (zB_ct hG) (by omega) (by omega) (by omega) (by omega) hr13.1 (by funext j; exact (hEm14 51 0 j (show ¬ ((51 = 58) ∨ (51 = 59) ∨ (51 = 60) ∨ (51 = 61) ∨ (51 = 34 ∧ j = 30) ∨ (51 = 54) ∨ (51 = 55) ∨ (51 = 57)) from by omega)).1) (by funext j; exact (hEm14 52 0 j (show ¬ ((52 = 58) ∨ (52 = 59) ∨ (52 = 60) ∨ (52 = 61) ∨ (52 = 34 ∧ j = 30) ∨ (52 = 54) ∨ (52 = 55) ∨ (52 = 57)) from by omega)).1) (by funext j; exact (hEm14 53 0 j (show ¬ ((53 = 58) ∨ (53 = 59) ∨ (53 = 60) ∨ (53 = 61) ∨ (53 = 34 ∧ j = 30) ∨ (53 = 54) ∨ (53 = 55) ∨ (53 = 57)) from by omega)).1) (by funext j; exact (hEm14 56 0 j (show ¬ ((56 = 58) ∨ (56 = 59) ∨ (56 = 60) ∨ (56 = 61) ∨ (56 = 34 ∧ j = 30) ∨ (56 = 54) ∨ (56 = 55) ∨ (56 = 57)) from by omega)).1) (Or.inl (by omega)) (Or.inl (by omega))
          show wW (zK sc) zM189 116 [(0, .inr (.inr (.inl (some (34, 0))))), (1, .inl f), (2, .inl i), (3, .inl (7 * f + i)), (4, .inr (.inl v)), (6, .inl k)] [] _ _ _
          exact ww_rV rfl rfl ⟨rfl, rfl, zB_mono hGm14 (by omega), hFm14, ⟨hRm14, Or.inr ⟨hq, hp.2.2.2, Or.inr ⟨fun ⟨z1, z2, z3⟩ => (by have z8 := hr10.1; omega), zfr_tr zfr_rf hEm14 (fun k i j z => z), hr13.1, hr13.2⟩⟩⟩⟩
        · show wW (zK sc) zM189 89 [(0, .inr (.inr (.inl (some (34, 0))))), (1, .inl f), (2, .inl i), (3, .inl (7 * f + i)), (4, .inr (.inl v)), (6, .inl k)] [] _ _ _
          refine ww_go 4 (pc' := 94) (L' := [(0, .inr (.inr (.inl (some (34, 0))))), (1, .inl f), (2, .inl i), (3, .inl (7 * f + i)), (4, .inr (.inl v)), (6, .inl k)]) (st' := [.inl i, .inl f, .inr (.inr (.inl (some (34, 0)))), .inr (.inl v)]) (m' := m0) (o := none) rfl trivial ?_
          refine ww_call (vs := [.inr (.inr (.inl (some (34, 0)))), .inl f, .inl i]) (r := [.inr (.inl v)]) (p := 0 < 1) rfl rfl rfl rfl (show 0 < 1 from by omega) (yt203 (c := c) (by omega) f i _ hG (by omega) (zRI_mf hR (by omega) (by omega))) ?_
          rintro _ _ _ ⟨r15, rfl, rfl, rfl, hr16⟩
          show wW (zK sc) zM189 97 [(0, .inr (.inr (.inl (some (34, 0))))), (1, .inl f), (2, .inl i), (3, .inl (7 * f + i)), (4, .inr (.inl v)), (6, .inl k)] [.inr (.inl r15), .inr (.inl v)] _ _ _
          have t17 := wlcmp_rg v r15
          refine ww_go 1 (pc' := 98) (L' := [(0, .inr (.inr (.inl (some (34, 0))))), (1, .inl f), (2, .inl i), (3, .inl (7 * f + i)), (4, .inr (.inl v)), (6, .inl k)]) (st' := [.inl (wlcmp v r15)]) (m' := m0) (o := none) rfl trivial ?_
          refine ww_if (t := 111) rfl rfl (by omega) (fun (h18 : wlcmp v r15 ≠ 0) => ?_) (fun (h18 : ¬ (wlcmp v r15 ≠ 0)) => ?_)
          · show wW (zK sc) zM189 111 [(0, .inr (.inr (.inl (some (34, 0))))), (1, .inl f), (2, .inl i), (3, .inl (7 * f + i)), (4, .inr (.inl v)), (6, .inl k)] [] _ _ _
            refine ww_go 2 (pc' := 113) (L' := [(0, .inr (.inr (.inl (some (34, 0))))), (1, .inl f), (2, .inl i), (3, .inl (7 * f + i)), (4, .inr (.inl v)), (6, .inl k)]) (st' := [.inl (7 * f + i), .inr (.inr (.inl (some (34, 0))))]) (m' := m0) (o := none) rfl trivial ?_
            refine ww_call (vs := [.inr (.inr (.inl (some (34, 0)))), .inl (7 * f + i)]) (r := []) (p := 0 < 1) rfl rfl rfl rfl (show 0 < 1 from by omega) (yt199 (c := c) (by omega) (7 * f + i) hG (by omega)) ?_
            rintro _ _ m21 ⟨rfl, rfl, hGm21, hEm21, hr20⟩
            have hFm21 : zfr (fun k i j => (k = 58) ∨ (k = 59) ∨ (k = 60) ∨ (k = 61) ∨ (k = 34 ∧ j = 30) ∨ (k = 54) ∨ (k = 55) ∨ (k = 57)) m0 m21 := zfr_tr hF hEm21 (fun k i j z => Or.elim z (fun z => Or.inl z) (fun z => Or.elim z (fun z => Or.inr (Or.inl z)) (fun z => Or.elim z (fun z => Or.inr (Or.inr (Or.inl z))) (fun z => Or.elim z (fun z => Or.inr (Or.inr (Or.inr (Or.inl z)))) (fun z => Or.elim z (fun z => Or.inr (Or.inr (Or.inr (Or.inr (Or.inl z))))) (fun z => Or.elim z (fun z => Or.inr (Or.inr (Or.inr (Or.inr (Or.inr (Or.inl z)))))) (fun z => Or.elim z (fun z => Or.inr (Or.inr (Or.inr (Or.inr (Or.inr (Or.inr (Or.inl z))))))) (fun z => Or.inr (Or.inr (Or.inr (Or.inr (Or.inr (Or.inr (Or.inr (z)))))))))))))))
            have hRm21 : zRI m21 := zRI_fg (p := f) (i := i) hR (zB_ct hG) (by omega) (by omega) (by omega) (by omega) hr20.1 (by funext j; exact (hEm21 51 0 j (show ¬ ((51 = 58) ∨ (51 = 59) ∨ (51 = 60) ∨ (51 = 61) ∨ (51 = 34 ∧ j = 30) ∨ (51 = 54) ∨ (51 = 55) ∨ (51 = 57)) from by omega)).1) (by funext j; exact (hEm21 52 0 j (show ¬ ((52 = 58) ∨ (52 = 59) ∨ (52 = 60) ∨ (52 = 61) ∨ (52 = 34 ∧ j = 30) ∨ (52 = 54) ∨ (52 = 55) ∨ (52 = 57)) from by omega)).1) (by funext j; exact (hEm21 53 0 j (show ¬ ((53 = 58) ∨ (53 = 59) ∨ (53 = 60) ∨ (53 = 61) ∨ (53 = 34 ∧ j = 30) ∨ (53 = 54) ∨ (53 = 55) ∨ (53 = 57)) from by omega)).1) (by funext j; exact (hEm21 56 0 j (show ¬ ((56 = 58) ∨ (56 = 59) ∨ (56 = 60) ∨ (56 = 61) ∨ (56 = 34 ∧ j = 30) ∨ (56 = 54) ∨ (56 = 55) ∨ (56 = 57)) from by omega)).1) (Or.inl (by omega)) (Or.inl (by omega))
            show wW (zK sc) zM189 116 [(0, .inr (.inr (.inl (some (34, 0))))), (1, .inl f), (2, .inl i), (3, .inl (7 * f + i)), (4, .inr (.inl v)), (6, .inl k)] [] _ _ _
            exact ww_rV rfl rfl ⟨rfl, rfl, zB_mono hGm21 (by omega), hFm21, ⟨hRm21, Or.inr ⟨hq, hp.2.2.2, Or.inr ⟨fun ⟨z1, z2, z3⟩ => (by have z8 := (wlcmp_rg v r15).2.2.2 ((hv.trans (by rw [show k = m0.1 54 0 ((7 * f + i).toNat) from by omega])).trans (z3.trans hr16.symm)); omega), zfr_tr zfr_rf hEm21 (fun k i j z => z), hr20.1, hr20.2⟩⟩⟩⟩
          · show wW (zK sc) zM189 101 [(0, .inr (.inr (.inl (some (34, 0))))), (1, .inl f), (2, .inl i), (3, .inl (7 * f + i)), (4, .inr (.inl v)), (6, .inl k)] [] _ _ _
            refine ww_go 5 (pc' := 108) (L' := [(0, .inr (.inr (.inl (some (34, 0))))), (1, .inl f), (2, .inl i), (3, .inl (7 * f + i)), (4, .inr (.inl v)), (6, .inl k)]) (st' := []) (m' := wuI m0 57 0 ((7 * f + i).toNat) 1) (o := some ((0 < 1) ∧ (0 < 1 ∧ 0 ≤ 7 * f + i ∧ 7 * f + i < ((56 : Nat) : Int) ∧ 0 ≤ (1 : Int) ∧ (1 : Int) ≤ 1))) rfl (show (0 < 1) ∧ (0 < 1 ∧ 0 ≤ 7 * f + i ∧ 7 * f + i < ((56 : Nat) : Int) ∧ 0 ≤ (1 : Int) ∧ (1 : Int) ≤ 1) from by omega) ?_
            obtain ⟨m22, hm22⟩ : ∃ zq9 : wm, zq9 = wuI m0 57 0 ((7 * f + i).toNat) 1 := ⟨_, rfl⟩
            rw [← hm22]
            have hGm22 : zB c m22 := by rw [hm22]; exact zB_wI rfl (show 0 ≤ (1 : Int) ∧ (1 : Int) ≤ 1 from by omega) hG
            have hFm22 : zfr (fun k i j => (k = 58) ∨ (k = 59) ∨ (k = 60) ∨ (k = 61) ∨ (k = 34 ∧ j = 30) ∨ (k = 54) ∨ (k = 55) ∨ (k = 57)) m0 m22 := by rw [hm22]; exact zfr_wI hF (show (57 = 58) ∨ (57 = 59) ∨ (57 = 60) ∨ (57 = 61) ∨ (57 = 34 ∧ ((7 * f + i).toNat) = 30) ∨ (57 = 54) ∨ (57 = 55) ∨ (57 = 57) from Or.inr (Or.inr (Or.inr (Or.inr (Or.inr (Or.inr (Or.inr (rfl))))))))
            have s23 : m22.1 57 0 ((7 * f + i).toNat) = (1 : Int) := by rw [hm22]; exact wuI_self
            have hRm22 : zRI m22 := by rw [hm22]; exact zRI_w57 (p := f) (i := i) hR (by omega) (by omega)
            refine ww_go 1 (pc' := 116) (L' := [(0, .inr (.inr (.inl (some (34, 0))))), (1, .inl f), (2, .inl i), (3, .inl (7 * f + i)), (4, .inr (.inl v)), (6, .inl k)]) (st' := []) (m' := m22) (o := none) rfl trivial ?_
            exact ww_rV rfl rfl ⟨rfl, rfl, zB_mono hGm22 (by omega), hFm22, ⟨hRm22, Or.inr ⟨hq, hp.2.2.2, Or.inl ⟨⟨by omega, (by have z8 := hr10.1; omega), ((hv.trans (by rw [show k = m0.1 54 0 ((7 * f + i).toNat) from by omega])).symm.trans ((wlcmp_rg v r15).2.2.1 (by omega))).trans hr16⟩, hm22⟩⟩⟩⟩
    · show wW (zK sc) zM189 44 [(0, .inr (.inr (.inl (some (34, 0))))), (1, .inl f), (2, .inl i), (3, .inl (7 * f + i)), (4, .inr (.inl v)), (6, .inl k)] [] _ _ _
      refine ww_go 4 (pc' := 50) (L' := [(0, .inr (.inr (.inl (some (34, 0))))), (1, .inl f), (2, .inl i), (3, .inl (7 * f + i)), (4, .inr (.inl v)), (6, .inl k)]) (st' := [.inl k, .inl (7 * f + i), .inr (.inr (.inl (some (34, 0)))), .inr (.inl v)]) (m' := m0) (o := none) rfl trivial ?_
      refine ww_call (vs := [.inr (.inr (.inl (some (34, 0)))), .inl (7 * f + i), .inl k]) (r := [.inr (.inl v)]) (p := 0 < 1) rfl rfl rfl rfl (show 0 < 1 from by omega) (zs185 (c := c) (by omega) (7 * f + i) k hG (by omega)) ?_
      rintro _ _ _ ⟨r24, rfl, rfl, rfl, hr25⟩
      show wW (zK sc) zM189 53 [(0, .inr (.inr (.inl (some (34, 0))))), (1, .inl f), (2, .inl i), (3, .inl (7 * f + i)), (4, .inr (.inl v)), (6, .inl k)] [.inl r24, .inr (.inl v)] _ _ _
      refine ww_call (vs := [.inr (.inl v), .inl r24]) (r := []) (p := True) rfl rfl rfl rfl trivial (zs223 v r24) ?_
      rintro _ _ _ ⟨r26, rfl, rfl, rfl, hr27⟩
      show wW (zK sc) zM189 56 [(0, .inr (.inr (.inl (some (34, 0))))), (1, .inl f), (2, .inl i), (3, .inl (7 * f + i)), (4, .inr (.inl v)), (6, .inl k)] [.inr (.inl r26)] _ _ _
      refine ww_go 3 (pc' := 33) (L' := [(6, .inl (k + 1)), (4, .inr (.inl r26)), (0, .inr (.inr (.inl (some (34, 0))))), (1, .inl f), (2, .inl i), (3, .inl (7 * f + i))]) (st' := []) (m' := m0) (o := none) rfl trivial ?_
      refine ww_sub (L := [(0, .inr (.inr (.inl (some (34, 0))))), (1, .inl f), (2, .inl i), (3, .inl (7 * f + i)), (4, .inr (.inl r26)), (6, .inl (k + 1))]) ⟨rfl, rfl, rfl, rfl, rfl, rfl, trivial⟩ rfl rfl ?_
      exact (ih _ (by omega)) r26 (k + 1) rfl (by omega) (by omega) (by exact hq) (by rw [hr27, hv, hr25.1, show (k + 1).toNat = k.toNat + 1 from by omega, show 104 * (7 * f + i) + k = 104 * (7 * f + i) + ((k.toNat : Nat) : Int) from by omega]; rfl)
set_option maxRecDepth 8000 in
/-- Mo.compare -/
theorem yt189 {sc : xSc} {n : Nat × Nat} {m0 : wm} {c : Int} (hc : 0 ≤ c ∧ c ≤ 1000000) (f : Int) (i : Int) (hG : zB c m0) (hR : zRI m0) (h0 : 0 ≤ f ∧ f ≤ 7 ∧ 1 ≤ i ∧ i ≤ 6 ∧ m0.1 51 0 f.toNat = 1) : wX (zK sc) 189 [.inr (.inr (.inl (some (34, 0)))), .inl f, .inl i] n m0 (wr (fun vv n1 m1 => vv = none ∧ n = n1 ∧ zB c m1 ∧ zfr (fun k i j => (k = 58) ∨ (k = 59) ∨ (k = 60) ∨ (k = 61) ∨ (k = 34 ∧ j = 30) ∨ (k = 54) ∨ (k = 55) ∨ (k = 57)) m0 m1 ∧ (zRI m1 ∧ (zCo1 m0 m1 f i)))) := by
  refine wX_of (N := zM189) rfl (Nat.le_of_ble_eq_true rfl) ?_
  show wW (zK sc) zM189 0 [(0, .inr (.inr (.inl (some (34, 0))))), (1, .inl f), (2, .inl i)] [] n m0 _
  have hF : zfr (fun k i j => (k = 58) ∨ (k = 59) ∨ (k = 60) ∨ (k = 61) ∨ (k = 34 ∧ j = 30) ∨ (k = 54) ∨ (k = 55) ∨ (k = 57)) m0 m0 := zfr_rf
  have bz : -1 ≤ m0.1 54 0 ((7 * f + i).toNat) ∧ m0.1 54 0 ((7 * f + i).toNat) ≤ 104 := hG.1 54 _ rfl _ _
  have bc : 0 ≤ m0.1 52 0 f.toNat ∧ m0.1 52 0 f.toNat ≤ 6 := hG.1 52 _ rfl _ _
  refine ww_go 8 (pc' := 9) (L' := [(3, .inl ((7 * f) + i)), (0, .inr (.inr (.inl (some (34, 0))))), (1, .inl f), (2, .inl i)]) (st' := [.inl ((7 * f) + i), .inr (.inr (.inl (some (34, 0))))]) (m' := m0) (o := none) rfl trivial ?_
  refine ww_call (vs := [.inr (.inr (.inl (some (34, 0)))), .inl ((7 * f) + i)]) (r := []) (p := 0 < 1) rfl rfl rfl rfl (show 0 < 1 from by omega) (zs209 (c := c) (by omega) ((7 * f) + i) hG (by omega)) ?_
  rintro _ _ _ ⟨r1, rfl, rfl, rfl, hr2⟩
  show wW (zK sc) zM189 12 [(3, .inl ((7 * f) + i)), (0, .inr (.inr (.inl (some (34, 0))))), (1, .inl f), (2, .inl i)] [.inl r1] _ _ _
  refine ww_if (t := 24) rfl rfl (by omega) (fun (h3 : r1 = 0) => ?_) (fun (h3 : ¬ (r1 = 0)) => ?_)
  · show wW (zK sc) zM189 24 [(3, .inl ((7 * f) + i)), (0, .inr (.inr (.inl (some (34, 0))))), (1, .inl f), (2, .inl i)] [] _ _ _
    exact ww_rV rfl rfl ⟨rfl, rfl, zB_mono hG (by omega), hF, ⟨hR, Or.inl ⟨(by first | exact Or.inr (by omega) | exact Or.inl (fun zz => hr2.elim (fun z => absurd z.1 (by omega)) (fun z => (by obtain ⟨z1, z2, z3⟩ := zz; omega)))), rfl⟩⟩⟩
  · show wW (zK sc) zM189 15 [(3, .inl ((7 * f) + i)), (0, .inr (.inr (.inl (some (34, 0))))), (1, .inl f), (2, .inl i)] [] _ _ _
    have b4 : 0 ≤ m0.1 57 0 (((7 * f) + i).toNat) ∧ m0.1 57 0 (((7 * f) + i).toNat) ≤ 1 := hG.1 57 _ rfl _ _
    refine ww_go 4 (pc' := 21) (L' := [(3, .inl ((7 * f) + i)), (0, .inr (.inr (.inl (some (34, 0))))), (1, .inl f), (2, .inl i)]) (st' := [.inl (m0.1 57 0 (((7 * f) + i).toNat))]) (m' := m0) (o := some ((0 < 1) ∧ (0 < 1 ∧ 0 ≤ (7 * f) + i ∧ (7 * f) + i < ((56 : Nat) : Int)))) rfl (show (0 < 1) ∧ (0 < 1 ∧ 0 ≤ (7 * f) + i ∧ (7 * f) + i < ((56 : Nat) : Int)) from by omega) ?_
    refine ww_if (t := 25) rfl rfl (by omega) (fun (h5 : m0.1 57 0 (((7 * f) + i).toNat) = 0) => ?_) (fun (h5 : ¬ (m0.1 57 0 (((7 * f) + i).toNat) = 0)) => ?_)
    · show wW (zK sc) zM189 25 [(3, .inl ((7 * f) + i)), (0, .inr (.inr (.inl (some (34, 0))))), (1, .inl f), (2, .inl i)] [] _ _ _
      refine ww_call (vs := []) (r := []) (p := True) rfl rfl rfl rfl trivial (zs181 ) ?_
      rintro _ _ _ ⟨r6, rfl, rfl, rfl, hr7⟩
      show wW (zK sc) zM189 28 [(3, .inl ((7 * f) + i)), (0, .inr (.inr (.inl (some (34, 0))))), (1, .inl f), (2, .inl i)] [.inr (.inl r6)] _ _ _
      refine ww_go 3 (pc' := 33) (L' := [(6, .inl 0), (4, .inr (.inl r6)), (3, .inl ((7 * f) + i)), (0, .inr (.inr (.inl (some (34, 0))))), (1, .inl f), (2, .inl i)]) (st' := []) (m' := m0) (o := none) rfl trivial ?_
      refine ww_sub (L := [(0, .inr (.inr (.inl (some (34, 0))))), (1, .inl f), (2, .inl i), (3, .inl ((7 * f) + i)), (4, .inr (.inl r6)), (6, .inl 0)]) ⟨rfl, rfl, rfl, rfl, rfl, rfl, trivial⟩ rfl rfl ?_
      exact (yt189_l33 hc f i hG hR h0 _) r6 0 rfl (by omega) (by omega) (by exact hr2.elim (fun z => z.2) (fun z => absurd z.1 (by omega))) (by exact hr7)
    · show wW (zK sc) zM189 24 [(3, .inl ((7 * f) + i)), (0, .inr (.inr (.inl (some (34, 0))))), (1, .inl f), (2, .inl i)] [] _ _ _
      exact ww_rV rfl rfl ⟨rfl, rfl, zB_mono hG (by omega), hF, ⟨hR, Or.inl ⟨(by first | exact Or.inr (by omega) | exact Or.inl (fun zz => hr2.elim (fun z => absurd z.1 (by omega)) (fun z => (by obtain ⟨z1, z2, z3⟩ := zz; omega)))), rfl⟩⟩⟩
set_option maxRecDepth 8000 in
theorem yt190_l61 {sc : xSc} {n : Nat × Nat} {m0 : wm} {c : Int} (hc : 0 ≤ c ∧ c ≤ 1000000) (f : Int) (i : Int) (hG : zB c m0) (hR : zRI m0) (h0 : 0 ≤ f ∧ f ≤ 7 ∧ 0 ≤ i ∧ i ≤ 6) (hp : 0 ≤ m0.1 54 0 ((7 * f + i).toNat) ∧ m0.1 55 0 ((2 * (7 * f + i)).toNat) = 1 ∧ (m0.1 54 0 ((7 * f + i).toNat) ≤ 64 ∨ m0.1 55 0 ((2 * (7 * f + i) + 1).toNat) = 1) ∧ (i = 0 → m0.1 51 0 f.toNat ≠ 1)) : ∀ (d : Nat), ∀ (k : Int) (m : wm), (7 - k).toNat = d → zB c m → zfr (fun k i j => (k = 58) ∨ (k = 59) ∨ (k = 60) ∨ (k = 61) ∨ (k = 34 ∧ j = 30) ∨ (k = 54) ∨ (k = 55) ∨ (k = 57) ∨ (k = 51) ∨ (k = 52)) m0 m → zRI m → (1 ≤ k ∧ k ≤ 7 ∧ m.1 51 0 f.toNat = 1) → (i = 0) → (zMsR m0 f) → (zLkR (wuI (wuI m0 51 0 f.toNat 1) 52 0 f.toNat (zby m0 f 2)) f (k - 1).toNat m) →  wW (zK sc) zM190 61 [(0, .inr (.inr (.inl (some (34, 0))))), (1, .inl f), (3, .inl k)] [] n m (wr (fun vv n1 m1 => vv = none ∧ n = n1 ∧ zB c m1 ∧ zfr (fun k i j => (k = 58) ∨ (k = 59) ∨ (k = 60) ∨ (k = 61) ∨ (k = 34 ∧ j = 30) ∨ (k = 54) ∨ (k = 55) ∨ (k = 57) ∨ (k = 51) ∨ (k = 52)) m0 m1 ∧ (zRI m1 ∧ (zCo m0 m1 f i)))) := by
  intro d
  induction d using Nat.strongRecOn with
  | ind d ih =>
    intro k m hd hGm hFm hRm hi hi0 hm9 hk9
    have bg9 : 0 ≤ m0.1 51 0 f.toNat ∧ m0.1 51 0 f.toNat ≤ 1 := hG.1 51 _ rfl _ _
    refine ww_go 2 (pc' := 64) (L' := [(0, .inr (.inr (.inl (some (34, 0))))), (1, .inl f), (3, .inl k)]) (st' := [.inl 7, .inl k]) (m' := m) (o := none) rfl trivial ?_
    refine ww_ic (t := 102) rfl rfl (by omega) (fun (h1 : 7 ≤ k) => ?_) (fun (h1 : ¬ (7 ≤ k)) => ?_)
    · show wW (zK sc) zM190 102 [(0, .inr (.inr (.inl (some (34, 0))))), (1, .inl f), (3, .inl k)] [] _ _ _
      exact ww_rV rfl rfl ⟨rfl, rfl, zB_mono hGm (by omega), hFm, ⟨hRm, Or.inr (Or.inr (Or.inr ⟨hi0, hm9, (by rw [show 6 = (k - 1).toNat from by omega]; exact hk9)⟩))⟩⟩
    · show wW (zK sc) zM190 67 [(0, .inr (.inr (.inl (some (34, 0))))), (1, .inl f), (3, .inl k)] [] _ _ _
      have b2 : 0 ≤ m.1 52 0 f.toNat ∧ m.1 52 0 f.toNat ≤ 6 := hGm.1 52 _ rfl _ _
      refine ww_go 5 (pc' := 74) (L' := [(0, .inr (.inr (.inl (some (34, 0))))), (1, .inl f), (3, .inl k)]) (st' := [.inl (m.1 52 0 f.toNat), .inl k]) (m' := m) (o := some ((0 < 1) ∧ (0 < 1 ∧ 0 ≤ f ∧ f < ((8 : Nat) : Int)))) rfl (show (0 < 1) ∧ (0 < 1 ∧ 0 ≤ f ∧ f < ((8 : Nat) : Int)) from by omega) ?_
      refine ww_ic (t := 90) rfl rfl (by omega) (fun (h3 : k ≤ m.1 52 0 f.toNat) => ?_) (fun (h3 : ¬ (k ≤ m.1 52 0 f.toNat)) => ?_)
      · show wW (zK sc) zM190 90 [(0, .inr (.inr (.inl (some (34, 0))))), (1, .inl f), (3, .inl k)] [] _ _ _
        refine ww_go 3 (pc' := 93) (L' := [(0, .inr (.inr (.inl (some (34, 0))))), (1, .inl f), (3, .inl k)]) (st' := [.inl k, .inl f, .inr (.inr (.inl (some (34, 0))))]) (m' := m) (o := none) rfl trivial ?_
        refine ww_call (vs := [.inr (.inr (.inl (some (34, 0)))), .inl f, .inl k]) (r := []) (p := 0 < 1) rfl rfl rfl rfl (show 0 < 1 from by omega) (yt189 (c := c) (by omega) f k hGm hRm (by omega)) ?_
        rintro _ _ m6 ⟨rfl, rfl, hGm6, hEm6, hRm6, hr5⟩
        have hFm6 : zfr (fun k i j => (k = 58) ∨ (k = 59) ∨ (k = 60) ∨ (k = 61) ∨ (k = 34 ∧ j = 30) ∨ (k = 54) ∨ (k = 55) ∨ (k = 57) ∨ (k = 51) ∨ (k = 52)) m0 m6 := zfr_tr hFm hEm6 (fun k i j z => Or.elim z (fun z => Or.inl z) (fun z => Or.elim z (fun z => Or.inr (Or.inl z)) (fun z => Or.elim z (fun z => Or.inr (Or.inr (Or.inl z))) (fun z => Or.elim z (fun z => Or.inr (Or.inr (Or.inr (Or.inl z)))) (fun z => Or.elim z (fun z => Or.inr (Or.inr (Or.inr (Or.inr (Or.inl z))))) (fun z => Or.elim z (fun z => Or.inr (Or.inr (Or.inr (Or.inr (Or.inr (Or.inl z)))))) (fun z => Or.elim z (fun z => Or.inr (Or.inr (Or.inr (Or.inr (Or.inr (Or.inr (Or.inl z))))))) (fun z => Or.inr (Or.inr (Or.inr (Or.inr (Or.inr (Or.inr (Or.inr (Or.inl z)))))))))))))))
        have w7 : m6.1 51 0 f.toNat = m.1 51 0 f.toNat := (hEm6 51 0 f.toNat (show ¬ ((51 = 58) ∨ (51 = 59) ∨ (51 = 60) ∨ (51 = 61) ∨ (51 = 34 ∧ f.toNat = 30) ∨ (51 = 54) ∨ (51 = 55) ∨ (51 = 57)) from by omega)).1
        show wW (zK sc) zM190 96 [(0, .inr (.inr (.inl (some (34, 0))))), (1, .inl f), (3, .inl k)] [] _ _ _
        refine ww_go 2 (pc' := 61) (L' := [(3, .inl (k + 1)), (0, .inr (.inr (.inl (some (34, 0))))), (1, .inl f)]) (st' := []) (m' := m6) (o := none) rfl trivial ?_
        refine ww_sub (L := [(0, .inr (.inr (.inl (some (34, 0))))), (1, .inl f), (3, .inl (k + 1))]) ⟨rfl, rfl, rfl, trivial⟩ rfl rfl ?_
        exact (ih _ (by omega)) (k + 1) m6 rfl (zB_mono hGm6 (by omega)) hFm6 hRm6 (by omega) (by omega) (by exact hm9) (by exact zLkR_s hk9 (by omega) (Or.inr ⟨by omega, hr5⟩))
      · show wW (zK sc) zM190 77 [(0, .inr (.inr (.inl (some (34, 0))))), (1, .inl f), (3, .inl k)] [] _ _ _
        refine ww_go 6 (pc' := 84) (L' := [(0, .inr (.inr (.inl (some (34, 0))))), (1, .inl f), (3, .inl k)]) (st' := [.inl ((7 * f) + k), .inr (.inr (.inl (some (34, 0))))]) (m' := m) (o := none) rfl trivial ?_
        refine ww_call (vs := [.inr (.inr (.inl (some (34, 0)))), .inl ((7 * f) + k)]) (r := []) (p := 0 < 1) rfl rfl rfl rfl (show 0 < 1 from by omega) (yt199 (c := c) (by omega) ((7 * f) + k) hGm (by omega)) ?_
        rintro _ _ m10 ⟨rfl, rfl, hGm10, hEm10, hr9⟩
        have hFm10 : zfr (fun k i j => (k = 58) ∨ (k = 59) ∨ (k = 60) ∨ (k = 61) ∨ (k = 34 ∧ j = 30) ∨ (k = 54) ∨ (k = 55) ∨ (k = 57) ∨ (k = 51) ∨ (k = 52)) m0 m10 := zfr_tr hFm hEm10 (fun k i j z => Or.elim z (fun z => Or.inl z) (fun z => Or.elim z (fun z => Or.inr (Or.inl z)) (fun z => Or.elim z (fun z => Or.inr (Or.inr (Or.inl z))) (fun z => Or.elim z (fun z => Or.inr (Or.inr (Or.inr (Or.inl z)))) (fun z => Or.elim z (fun z => Or.inr (Or.inr (Or.inr (Or.inr (Or.inl z))))) (fun z => Or.elim z (fun z => Or.inr (Or.inr (Or.inr (Or.inr (Or.inr (Or.inl z)))))) (fun z => Or.elim z (fun z => Or.inr (Or.inr (Or.inr (Or.inr (Or.inr (Or.inr (Or.inl z))))))) (fun z => Or.inr (Or.inr (Or.inr (Or.inr (Or.inr (Or.inr (Or.inr (Or.inl z)))))))))))))))
        have w11 : m10.1 51 0 f.toNat = m.1 51 0 f.toNat := (hEm10 51 0 f.toNat (show ¬ ((51 = 58) ∨ (51 = 59) ∨ (51 = 60) ∨ (51 = 61) ∨ (51 = 34 ∧ f.toNat = 30) ∨ (51 = 54) ∨ (51 = 55) ∨ (51 = 57)) from by omega)).1
        have hRm10 : zRI m10 := zRI_fg (p := f) (i := k) hRm (zB_ct hGm) (by omega) (by omega) (by omega) (by omega) hr9.1 (by funext j; exact (hEm10 51 0 j (show ¬ ((51 = 58) ∨ (51 = 59) ∨ (51 = 60) ∨ (51 = 61) ∨ (51 = 34 ∧ j = 30) ∨ (51 = 54) ∨ (51 = 55) ∨ (51 = 57)) from by omega)).1) (by funext j; exact (hEm10 52 0 j (show ¬ ((52 = 58) ∨ (52 = 59) ∨ (52 = 60) ∨ (52 = 61) ∨ (52 = 34 ∧ j = 30) ∨ (52 = 54) ∨ (52 = 55) ∨ (52 = 57)) from by omega)).1) (by funext j; exact (hEm10 53 0 j (show ¬ ((53 = 58) ∨ (53 = 59) ∨ (53 = 60) ∨ (53 = 61) ∨ (53 = 34 ∧ j = 30) ∨ (53 = 54) ∨ (53 = 55) ∨ (53 = 57)) from by omega)).1) (by funext j; exact (hEm10 56 0 j (show ¬ ((56 = 58) ∨ (56 = 59) ∨ (56 = 60) ∨ (56 = 61) ∨ (56 = 34 ∧ j = 30) ∨ (56 = 54) ∨ (56 = 55) ∨ (56 = 57)) from by omega)).1) (Or.inr (by omega)) (Or.inl (by omega))
        show wW (zK sc) zM190 87 [(0, .inr (.inr (.inl (some (34, 0))))), (1, .inl f), (3, .inl k)] [] _ _ _
        refine ww_go 3 (pc' := 61) (L' := [(3, .inl (k + 1)), (0, .inr (.inr (.inl (some (34, 0))))), (1, .inl f)]) (st' := []) (m' := m10) (o := none) rfl trivial ?_
        refine ww_sub (L := [(0, .inr (.inr (.inl (some (34, 0))))), (1, .inl f), (3, .inl (k + 1))]) ⟨rfl, rfl, rfl, trivial⟩ rfl rfl ?_
        exact (ih _ (by omega)) (k + 1) m10 rfl (zB_mono hGm10 (by omega)) hFm10 hRm10 (by omega) (by omega) (by exact hm9) (by exact zLkR_s hk9 (by omega) (Or.inl ⟨by omega, ⟨zfr_tr zfr_rf hEm10 (fun k i j z => z), hr9.1, hr9.2⟩⟩))
set_option maxRecDepth 8000 in
/-- Mo.completes -/
theorem yt190 {sc : xSc} {n : Nat × Nat} {m0 : wm} {c : Int} (hc : 0 ≤ c ∧ c ≤ 1000000) (f : Int) (i : Int) (hG : zB c m0) (hR : zRI m0) (h0 : 0 ≤ f ∧ f ≤ 7 ∧ 0 ≤ i ∧ i ≤ 6) (hp : 0 ≤ m0.1 54 0 ((7 * f + i).toNat) ∧ m0.1 55 0 ((2 * (7 * f + i)).toNat) = 1 ∧ (m0.1 54 0 ((7 * f + i).toNat) ≤ 64 ∨ m0.1 55 0 ((2 * (7 * f + i) + 1).toNat) = 1) ∧ (i = 0 → m0.1 51 0 f.toNat ≠ 1)) : wX (zK sc) 190 [.inr (.inr (.inl (some (34, 0)))), .inl f, .inl i] n m0 (wr (fun vv n1 m1 => vv = none ∧ n = n1 ∧ zB c m1 ∧ zfr (fun k i j => (k = 58) ∨ (k = 59) ∨ (k = 60) ∨ (k = 61) ∨ (k = 34 ∧ j = 30) ∨ (k = 54) ∨ (k = 55) ∨ (k = 57) ∨ (k = 51) ∨ (k = 52)) m0 m1 ∧ (zRI m1 ∧ (zCo m0 m1 f i)))) := by
  refine wX_of (N := zM190) rfl (Nat.le_of_ble_eq_true rfl) ?_
  show wW (zK sc) zM190 0 [(0, .inr (.inr (.inl (some (34, 0))))), (1, .inl f), (2, .inl i)] [] n m0 _
  have hF : zfr (fun k i j => (k = 58) ∨ (k = 59) ∨ (k = 60) ∨ (k = 61) ∨ (k = 34 ∧ j = 30) ∨ (k = 54) ∨ (k = 55) ∨ (k = 57) ∨ (k = 51) ∨ (k = 52)) m0 m0 := zfr_rf
  have bg9 : 0 ≤ m0.1 51 0 f.toNat ∧ m0.1 51 0 f.toNat ≤ 1 := hG.1 51 _ rfl _ _
  refine ww_go 1 (pc' := 1) (L' := [(0, .inr (.inr (.inl (some (34, 0))))), (1, .inl f), (2, .inl i)]) (st' := [.inl i]) (m' := m0) (o := none) rfl trivial ?_
  refine ww_if (t := 20) rfl rfl (by omega) (fun (h1 : i ≤ 0) => ?_) (fun (h1 : ¬ (i ≤ 0)) => ?_)
  · show wW (zK sc) zM190 20 [(0, .inr (.inr (.inl (some (34, 0))))), (1, .inl f), (2, .inl i)] [] _ _ _
    refine ww_go 2 (pc' := 22) (L' := [(0, .inr (.inr (.inl (some (34, 0))))), (1, .inl f), (2, .inl i)]) (st' := [.inl f, .inr (.inr (.inl (some (34, 0))))]) (m' := m0) (o := none) rfl trivial ?_
    refine ww_call (vs := [.inr (.inr (.inl (some (34, 0)))), .inl f]) (r := []) (p := 0 < 1) rfl rfl rfl rfl (show 0 < 1 from by omega) (yt211 (c := c) (by omega) f hG (by omega)) ?_
    rintro _ _ _ ⟨r2, rfl, rfl, rfl, hr3⟩
    show wW (zK sc) zM190 25 [(0, .inr (.inr (.inl (some (34, 0))))), (1, .inl f), (2, .inl i)] [.inl r2] _ _ _
    refine ww_if (t := 37) rfl rfl (by omega) (fun (h4 : r2 ≠ 0) => ?_) (fun (h4 : ¬ (r2 ≠ 0)) => ?_)
    · show wW (zK sc) zM190 37 [(0, .inr (.inr (.inl (some (34, 0))))), (1, .inl f), (2, .inl i)] [] _ _ _
      refine ww_go 5 (pc' := 44) (L' := [(0, .inr (.inr (.inl (some (34, 0))))), (1, .inl f), (2, .inl i)]) (st' := []) (m' := wuI m0 51 0 f.toNat 1) (o := some ((0 < 1) ∧ (0 < 1 ∧ 0 ≤ f ∧ f < ((8 : Nat) : Int) ∧ 0 ≤ (1 : Int) ∧ (1 : Int) ≤ 1))) rfl (show (0 < 1) ∧ (0 < 1 ∧ 0 ≤ f ∧ f < ((8 : Nat) : Int) ∧ 0 ≤ (1 : Int) ∧ (1 : Int) ≤ 1) from by omega) ?_
      obtain ⟨m5, hm5⟩ : ∃ zq9 : wm, zq9 = wuI m0 51 0 f.toNat 1 := ⟨_, rfl⟩
      rw [← hm5]
      have hGm5 : zB c m5 := by rw [hm5]; exact zB_wI rfl (show 0 ≤ (1 : Int) ∧ (1 : Int) ≤ 1 from by omega) hG
      have hFm5 : zfr (fun k i j => (k = 58) ∨ (k = 59) ∨ (k = 60) ∨ (k = 61) ∨ (k = 34 ∧ j = 30) ∨ (k = 54) ∨ (k = 55) ∨ (k = 57) ∨ (k = 51) ∨ (k = 52)) m0 m5 := by rw [hm5]; exact zfr_wI hF (show (51 = 58) ∨ (51 = 59) ∨ (51 = 60) ∨ (51 = 61) ∨ (51 = 34 ∧ f.toNat = 30) ∨ (51 = 54) ∨ (51 = 55) ∨ (51 = 57) ∨ (51 = 51) ∨ (51 = 52) from Or.inr (Or.inr (Or.inr (Or.inr (Or.inr (Or.inr (Or.inr (Or.inr (Or.inl rfl)))))))))
      have s6 : m5.1 51 0 f.toNat = (1 : Int) := by rw [hm5]; exact wuI_self
      refine ww_go 8 (pc' := 55) (L' := [(0, .inr (.inr (.inl (some (34, 0))))), (1, .inl f), (2, .inl i)]) (st' := [.inl 2, .inl (7 * f), .inr (.inr (.inl (some (34, 0)))), .inl f, .inr (.inr (.inl (some (52, 0))))]) (m' := m5) (o := some ((0 < 1))) rfl (show (0 < 1) from by omega) ?_
      refine ww_call (vs := [.inr (.inr (.inl (some (34, 0)))), .inl (7 * f), .inl 2]) (r := [.inl f, .inr (.inr (.inl (some (52, 0))))]) (p := 0 < 1) rfl rfl rfl rfl (show 0 < 1 from by omega) (zs185 (c := c) (by omega) (7 * f) 2 hGm5 (by omega)) ?_
      rintro _ _ _ ⟨r7, rfl, rfl, rfl, hr8⟩
      have zB9 : r7 = m0.1 56 0 (104 * (7 * f) + 2).toNat := by rw [(hr8).1, hm5]; rfl
      have zM8 := (hr3).elim id (fun z => absurd z.1 (by omega))
      have zM9 := zM8.2.1
      have zN9 := zM9.2
      show wW (zK sc) zM190 58 [(0, .inr (.inr (.inl (some (34, 0))))), (1, .inl f), (2, .inl i)] [.inl r7, .inl f, .inr (.inr (.inl (some (52, 0))))] _ _ _
      refine ww_go 1 (pc' := 59) (L' := [(0, .inr (.inr (.inl (some (34, 0))))), (1, .inl f), (2, .inl i)]) (st' := []) (m' := wuI m5 52 0 f.toNat r7) (o := some ((0 < 1 ∧ 0 ≤ f ∧ f < ((8 : Nat) : Int)))) rfl (show (0 < 1 ∧ 0 ≤ f ∧ f < ((8 : Nat) : Int)) from by omega) ?_
      obtain ⟨m9, hm9⟩ : ∃ zq9 : wm, zq9 = wuI m5 52 0 f.toNat r7 := ⟨_, rfl⟩
      rw [← hm9]
      have hGm9 : zB c m9 := by rw [hm9]; exact zB_wI rfl (show 0 ≤ r7 ∧ r7 ≤ 6 from by omega) hGm5
      have hFm9 : zfr (fun k i j => (k = 58) ∨ (k = 59) ∨ (k = 60) ∨ (k = 61) ∨ (k = 34 ∧ j = 30) ∨ (k = 54) ∨ (k = 55) ∨ (k = 57) ∨ (k = 51) ∨ (k = 52)) m0 m9 := by rw [hm9]; exact zfr_wI hFm5 (show (52 = 58) ∨ (52 = 59) ∨ (52 = 60) ∨ (52 = 61) ∨ (52 = 34 ∧ f.toNat = 30) ∨ (52 = 54) ∨ (52 = 55) ∨ (52 = 57) ∨ (52 = 51) ∨ (52 = 52) from Or.inr (Or.inr (Or.inr (Or.inr (Or.inr (Or.inr (Or.inr (Or.inr (Or.inr (rfl))))))))))
      have s10 : m9.1 52 0 f.toNat = r7 := by rw [hm9]; exact wuI_self
      have w11 : m9.1 51 0 f.toNat = m5.1 51 0 f.toNat := by rw [hm9]; rfl
      have hRm9 : zRI m9 := by rw [hm9]; rw [hm5]; exact zRI_man hR (zB_ct hG) (by omega) (by omega) (by omega) (by rw [zB9]; exact zM9.1) (by rw [show i = 0 from by omega, Int.add_zero] at hp; exact ⟨hp.2.1, hp.2.2.1, hp.1⟩)
      refine ww_go 2 (pc' := 61) (L' := [(3, .inl 1), (0, .inr (.inr (.inl (some (34, 0))))), (1, .inl f), (2, .inl i)]) (st' := []) (m' := m9) (o := none) rfl trivial ?_
      refine ww_sub (L := [(0, .inr (.inr (.inl (some (34, 0))))), (1, .inl f), (3, .inl 1)]) ⟨rfl, rfl, rfl, trivial⟩ rfl rfl ?_
      exact (yt190_l61 hc f i hG hR h0 hp _) 1 m9 rfl (zB_mono hGm9 (by omega)) hFm9 hRm9 (by omega) (by omega) (by exact zM8.2.2) (by show m9 = wuI (wuI m0 51 0 f.toNat 1) 52 0 f.toNat (zby m0 f 2); rw [hm9, hm5, zB9, zby_a])
    · show wW (zK sc) zM190 28 [(0, .inr (.inr (.inl (some (34, 0))))), (1, .inl f), (2, .inl i)] [] _ _ _
      refine ww_go 4 (pc' := 33) (L' := [(0, .inr (.inr (.inl (some (34, 0))))), (1, .inl f), (2, .inl i)]) (st' := [.inl (7 * f), .inr (.inr (.inl (some (34, 0))))]) (m' := m0) (o := none) rfl trivial ?_
      refine ww_call (vs := [.inr (.inr (.inl (some (34, 0)))), .inl (7 * f)]) (r := []) (p := 0 < 1) rfl rfl rfl rfl (show 0 < 1 from by omega) (yt199 (c := c) (by omega) (7 * f) hG (by omega)) ?_
      rintro _ _ m14 ⟨rfl, rfl, hGm14, hEm14, hr13⟩
      have hFm14 : zfr (fun k i j => (k = 58) ∨ (k = 59) ∨ (k = 60) ∨ (k = 61) ∨ (k = 34 ∧ j = 30) ∨ (k = 54) ∨ (k = 55) ∨ (k = 57) ∨ (k = 51) ∨ (k = 52)) m0 m14 := zfr_tr hF hEm14 (fun k i j z => Or.elim z (fun z => Or.inl z) (fun z => Or.elim z (fun z => Or.inr (Or.inl z)) (fun z => Or.elim z (fun z => Or.inr (Or.inr (Or.inl z))) (fun z => Or.elim z (fun z => Or.inr (Or.inr (Or.inr (Or.inl z)))) (fun z => Or.elim z (fun z => Or.inr (Or.inr (Or.inr (Or.inr (Or.inl z))))) (fun z => Or.elim z (fun z => Or.inr (Or.inr (Or.inr (Or.inr (Or.inr (Or.inl z)))))) (fun z => Or.elim z (fun z => Or.inr (Or.inr (Or.inr (Or.inr (Or.inr (Or.inr (Or.inl z))))))) (fun z => Or.inr (Or.inr (Or.inr (Or.inr (Or.inr (Or.inr (Or.inr (Or.inl z)))))))))))))))
      have w15 : m14.1 51 0 f.toNat = m0.1 51 0 f.toNat := (hEm14 51 0 f.toNat (show ¬ ((51 = 58) ∨ (51 = 59) ∨ (51 = 60) ∨ (51 = 61) ∨ (51 = 34 ∧ f.toNat = 30) ∨ (51 = 54) ∨ (51 = 55) ∨ (51 = 57)) from by omega)).1
      have hRm14 : zRI m14 := zRI_fg (p := f) (i := 0) hR (zB_ct hG) (by omega) (by omega) (by omega) (by omega) (by rw [Int.add_zero]; exact hr13.1) (by funext j; exact (hEm14 51 0 j (show ¬ ((51 = 58) ∨ (51 = 59) ∨ (51 = 60) ∨ (51 = 61) ∨ (51 = 34 ∧ j = 30) ∨ (51 = 54) ∨ (51 = 55) ∨ (51 = 57)) from by omega)).1) (by funext j; exact (hEm14 52 0 j (show ¬ ((52 = 58) ∨ (52 = 59) ∨ (52 = 60) ∨ (52 = 61) ∨ (52 = 34 ∧ j = 30) ∨ (52 = 54) ∨ (52 = 55) ∨ (52 = 57)) from by omega)).1) (by funext j; exact (hEm14 53 0 j (show ¬ ((53 = 58) ∨ (53 = 59) ∨ (53 = 60) ∨ (53 = 61) ∨ (53 = 34 ∧ j = 30) ∨ (53 = 54) ∨ (53 = 55) ∨ (53 = 57)) from by omega)).1) (by funext j; exact (hEm14 56 0 j (show ¬ ((56 = 58) ∨ (56 = 59) ∨ (56 = 60) ∨ (56 = 61) ∨ (56 = 34 ∧ j = 30) ∨ (56 = 54) ∨ (56 = 55) ∨ (56 = 57)) from by omega)).1) (Or.inl (fun z => by have z9 := (hR f (by omega) (by omega)).2.1 0 (by omega) (by omega) z; omega)) (Or.inr (by omega))
      show wW (zK sc) zM190 36 [(0, .inr (.inr (.inl (some (34, 0))))), (1, .inl f), (2, .inl i)] [] _ _ _
      exact ww_rV rfl rfl ⟨rfl, rfl, zB_mono hGm14 (by omega), hFm14, ⟨hRm14, Or.inr (Or.inr (Or.inl ⟨by omega, hr3.elim (fun z => absurd z.1 (by omega)) (fun z => z.2), ⟨zfr_tr zfr_rf hEm14 (fun k i j z => z), hr13.1, hr13.2⟩⟩))⟩⟩
  · show wW (zK sc) zM190 4 [(0, .inr (.inr (.inl (some (34, 0))))), (1, .inl f), (2, .inl i)] [] _ _ _
    have b16 : 0 ≤ m0.1 51 0 f.toNat ∧ m0.1 51 0 f.toNat ≤ 1 := hG.1 51 _ rfl _ _
    refine ww_go 4 (pc' := 10) (L' := [(0, .inr (.inr (.inl (some (34, 0))))), (1, .inl f), (2, .inl i)]) (st' := [.inl (m0.1 51 0 f.toNat)]) (m' := m0) (o := some ((0 < 1) ∧ (0 < 1 ∧ 0 ≤ f ∧ f < ((8 : Nat) : Int)))) rfl (show (0 < 1) ∧ (0 < 1 ∧ 0 ≤ f ∧ f < ((8 : Nat) : Int)) from by omega) ?_
    refine ww_if (t := 19) rfl rfl (by omega) (fun (h17 : m0.1 51 0 f.toNat = 0) => ?_) (fun (h17 : ¬ (m0.1 51 0 f.toNat = 0)) => ?_)
    · show wW (zK sc) zM190 19 [(0, .inr (.inr (.inl (some (34, 0))))), (1, .inl f), (2, .inl i)] [] _ _ _
      exact ww_rV rfl rfl ⟨rfl, rfl, zB_mono hG (by omega), hF, ⟨hR, Or.inl ⟨by omega, by omega, rfl⟩⟩⟩
    · show wW (zK sc) zM190 13 [(0, .inr (.inr (.inl (some (34, 0))))), (1, .inl f), (2, .inl i)] [] _ _ _
      refine ww_go 3 (pc' := 16) (L' := [(0, .inr (.inr (.inl (some (34, 0))))), (1, .inl f), (2, .inl i)]) (st' := [.inl i, .inl f, .inr (.inr (.inl (some (34, 0))))]) (m' := m0) (o := none) rfl trivial ?_
      refine ww_call (vs := [.inr (.inr (.inl (some (34, 0)))), .inl f, .inl i]) (r := []) (p := 0 < 1) rfl rfl rfl rfl (show 0 < 1 from by omega) (yt189 (c := c) (by omega) f i hG hR (by omega)) ?_
      rintro _ _ m20 ⟨rfl, rfl, hGm20, hEm20, hRm20, hr19⟩
      have hFm20 : zfr (fun k i j => (k = 58) ∨ (k = 59) ∨ (k = 60) ∨ (k = 61) ∨ (k = 34 ∧ j = 30) ∨ (k = 54) ∨ (k = 55) ∨ (k = 57) ∨ (k = 51) ∨ (k = 52)) m0 m20 := zfr_tr hF hEm20 (fun k i j z => Or.elim z (fun z => Or.inl z) (fun z => Or.elim z (fun z => Or.inr (Or.inl z)) (fun z => Or.elim z (fun z => Or.inr (Or.inr (Or.inl z))) (fun z => Or.elim z (fun z => Or.inr (Or.inr (Or.inr (Or.inl z)))) (fun z => Or.elim z (fun z => Or.inr (Or.inr (Or.inr (Or.inr (Or.inl z))))) (fun z => Or.elim z (fun z => Or.inr (Or.inr (Or.inr (Or.inr (Or.inr (Or.inl z)))))) (fun z => Or.elim z (fun z => Or.inr (Or.inr (Or.inr (Or.inr (Or.inr (Or.inr (Or.inl z))))))) (fun z => Or.inr (Or.inr (Or.inr (Or.inr (Or.inr (Or.inr (Or.inr (Or.inl z)))))))))))))))
      have w21 : m20.1 51 0 f.toNat = m0.1 51 0 f.toNat := (hEm20 51 0 f.toNat (show ¬ ((51 = 58) ∨ (51 = 59) ∨ (51 = 60) ∨ (51 = 61) ∨ (51 = 34 ∧ f.toNat = 30) ∨ (51 = 54) ∨ (51 = 55) ∨ (51 = 57)) from by omega)).1
      show wW (zK sc) zM190 19 [(0, .inr (.inr (.inl (some (34, 0))))), (1, .inl f), (2, .inl i)] [] _ _ _
      exact ww_rV rfl rfl ⟨rfl, rfl, zB_mono hGm20 (by omega), hFm20, ⟨hRm20, Or.inr (Or.inl ⟨by omega, by omega, hr19⟩)⟩⟩
