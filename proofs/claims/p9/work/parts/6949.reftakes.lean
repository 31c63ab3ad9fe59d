set_option maxRecDepth 8000 in
theorem yt248_l255 {sc : xSc} {n : Nat × Nat} {m0 : wm} {c : Int} (hc : 0 ≤ c ∧ c ≤ 990000) (q : Int) (f : Int) (b : Int) (i : Int) (hG : zB c m0) (hR : zRI m0) (h0 : 0 ≤ q ∧ q ≤ 31 ∧ 0 ≤ f ∧ f ≤ 7 ∧ 0 ≤ i ∧ i ≤ 6 ∧ 0 ≤ b ∧ b ≤ 1) (hs : m0.1 47 0 ((24 * q + 7).toNat) ≤ 104 ∧ (b = 0 ∨ 64 < m0.1 47 0 ((24 * q + 7).toNat))) (hb : zRb m0) : ∀ (d : Nat), ∀ (g : Int) (m : wm), (8 - g).toNat = d → zB (c + (g - f / 4 * 4)) m → zfr (fun k i j => (k = 58) ∨ (k = 59) ∨ (k = 60) ∨ (k = 61) ∨ (k = 34 ∧ j = 30) ∨ (k = 54) ∨ (k = 55) ∨ (k = 57) ∨ (k = 56) ∨ (k = 51) ∨ (k = 52) ∨ (k = 53) ∨ (k = 71) ∨ (k = 72) ∨ (k = 34 ∧ j = 48) ∨ (k = 34 ∧ j = 47) ∨ (k = 34 ∧ j = 35)) m0 m → zRI m → (f / 4 * 4 ≤ g ∧ g ≤ f / 4 * 4 + 4) → (zT5 m0 m q f i b) →  wW (zK sc) zM248 255 [(0, .inr (.inr (.inl (some (34, 0))))), (2, .inl f), (9, .inl g)] [] n m (wr (fun vv n1 m1 => ∃ r : Int, vv = some (.inl r) ∧ n = n1 ∧ zB (c + 4) m1 ∧ zfr (fun k i j => (k = 58) ∨ (k = 59) ∨ (k = 60) ∨ (k = 61) ∨ (k = 34 ∧ j = 30) ∨ (k = 54) ∨ (k = 55) ∨ (k = 57) ∨ (k = 56) ∨ (k = 51) ∨ (k = 52) ∨ (k = 53) ∨ (k = 71) ∨ (k = 72) ∨ (k = 34 ∧ j = 48) ∨ (k = 34 ∧ j = 47) ∨ (k = 34 ∧ j = 35)) m0 m1 ∧ (zRI m1 ∧ ((0 ≤ r ∧ r ≤ 6) ∧ zTkR m0 m1 q f i b r)))) := by
  intro d
  induction d using Nat.strongRecOn with
  | ind d ih =>
    intro g m hd hGm hFm hRm hi hT5
    have zq7 : zsl m0 q 7 = m0.1 47 0 ((24 * q + 7).toNat) := rfl
    have t0 : f.tdiv 4 = f / 4 := Int.tdiv_eq_ediv_of_nonneg (by omega)
    have t1 : (0 ≤ f → f.tdiv 4 = f / 4) ∧ (f < 0 → f.tdiv 4 = -((-f) / 4)) := ⟨fun z => Int.tdiv_eq_ediv_of_nonneg z, fun z => wtdiv_neg z⟩
    refine ww_go 8 (pc' := 264) (L' := [(0, .inr (.inr (.inl (some (34, 0))))), (2, .inl f), (9, .inl g)]) (st' := [.inl (((f.tdiv 4) * 4) + 4), .inl g]) (m' := m) (o := some ((-2147483648 ≤ f ∧ f ≤ 2147483647 ∧ 0 < (4 : Int) ∧ (4 : Int) ≤ 2147483647))) rfl (show (-2147483648 ≤ f ∧ f ≤ 2147483647 ∧ 0 < (4 : Int) ∧ (4 : Int) ≤ 2147483647) from by omega) ?_
    refine ww_ic (t := 279) rfl rfl (by omega) (fun (h2 : ((f.tdiv 4) * 4) + 4 ≤ g) => ?_) (fun (h2 : ¬ (((f.tdiv 4) * 4) + 4 ≤ g)) => ?_)
    · show wW (zK sc) zM248 279 [(0, .inr (.inr (.inl (some (34, 0))))), (2, .inl f), (9, .inl g)] [] _ _ _
      refine ww_go 1 (pc' := 280) (L' := [(0, .inr (.inr (.inl (some (34, 0))))), (2, .inl f), (9, .inl g)]) (st' := [.inl 0]) (m' := m) (o := none) rfl trivial ?_
      exact ww_rI rfl rfl ⟨_, rfl, rfl, zB_mono hGm (by omega), hFm, ⟨hRm, ⟨by omega, Or.inr (Or.inr (Or.inr ⟨rfl, Or.inr hT5⟩))⟩⟩⟩
    · show wW (zK sc) zM248 267 [(0, .inr (.inr (.inl (some (34, 0))))), (2, .inl f), (9, .inl g)] [] _ _ _
      refine ww_go 2 (pc' := 270) (L' := [(0, .inr (.inr (.inl (some (34, 0))))), (2, .inl f), (9, .inl g)]) (st' := [.inl g, .inr (.inr (.inl (some (34, 0))))]) (m' := m) (o := none) rfl trivial ?_
      refine ww_call (vs := [.inr (.inr (.inl (some (34, 0)))), .inl g]) (r := []) (p := 0 < 1) rfl rfl rfl rfl (show 0 < 1 from by omega) (zs216 (c := (c + (g - f / 4 * 4))) (by omega) g hGm hRm (by omega)) ?_
      rintro _ _ m5 ⟨rfl, rfl, hGm5, hEm5, hRm5, hr4⟩
      have hFm5 : zfr (fun k i j => (k = 58) ∨ (k = 59) ∨ (k = 60) ∨ (k = 61) ∨ (k = 34 ∧ j = 30) ∨ (k = 54) ∨ (k = 55) ∨ (k = 57) ∨ (k = 56) ∨ (k = 51) ∨ (k = 52) ∨ (k = 53) ∨ (k = 71) ∨ (k = 72) ∨ (k = 34 ∧ j = 48) ∨ (k = 34 ∧ j = 47) ∨ (k = 34 ∧ j = 35)) m0 m5 := zfr_tr hFm hEm5 (fun k i j z => Or.elim z (fun z => Or.inr (Or.inr (Or.inr (Or.inr (Or.inr (Or.inr (Or.inr (Or.inr (Or.inr (Or.inr (Or.inr (Or.inr (Or.inr (Or.inr (Or.inl z))))))))))))))) (fun z => Or.elim z (fun z => Or.inr (Or.inr (Or.inr (Or.inr (Or.inr (Or.inr (Or.inr (Or.inr (Or.inr (Or.inr (Or.inr (Or.inr (Or.inr (Or.inr (Or.inr (Or.inl z)))))))))))))))) (fun z => Or.elim z (fun z => Or.inr (Or.inr (Or.inr (Or.inr (Or.inr (Or.inr (Or.inr (Or.inr (Or.inr (Or.inr (Or.inr (Or.inr (Or.inl z))))))))))))) (fun z => Or.elim z (fun z => Or.inr (Or.inr (Or.inr (Or.inr (Or.inr (Or.inr (Or.inr (Or.inr (Or.inr (Or.inr (Or.inr (Or.inr (Or.inr (Or.inl z)))))))))))))) (fun z => Or.inr (Or.inr (Or.inr (Or.inr (Or.inr (Or.inr (Or.inr (Or.inr (Or.inr (Or.inr (Or.inr (Or.inl z))))))))))))))))
      have w6 : m5.1 54 0 ((7 * f + i).toNat) = m.1 54 0 ((7 * f + i).toNat) := (hEm5 54 0 ((7 * f + i).toNat) (show ¬ ((54 = 34 ∧ ((7 * f + i).toNat) = 48) ∨ (54 = 34 ∧ ((7 * f + i).toNat) = 47) ∨ (54 = 71) ∨ (54 = 72) ∨ (54 = 53)) from by omega)).1
      have w7 : m5.1 55 0 ((2 * (7 * f + i) + b).toNat) = m.1 55 0 ((2 * (7 * f + i) + b).toNat) := (hEm5 55 0 ((2 * (7 * f + i) + b).toNat) (show ¬ ((55 = 34 ∧ ((2 * (7 * f + i) + b).toNat) = 48) ∨ (55 = 34 ∧ ((2 * (7 * f + i) + b).toNat) = 47) ∨ (55 = 71) ∨ (55 = 72) ∨ (55 = 53)) from by omega)).1
      have w8 : m5.1 51 0 f.toNat = m.1 51 0 f.toNat := (hEm5 51 0 f.toNat (show ¬ ((51 = 34 ∧ f.toNat = 48) ∨ (51 = 34 ∧ f.toNat = 47) ∨ (51 = 71) ∨ (51 = 72) ∨ (51 = 53)) from by omega)).1
      have w9 : m5.1 34 0 30 = m.1 34 0 30 := (hEm5 34 0 30 (show ¬ ((34 = 34 ∧ 30 = 48) ∨ (34 = 34 ∧ 30 = 47) ∨ (34 = 71) ∨ (34 = 72) ∨ (34 = 53)) from by omega)).1
      show wW (zK sc) zM248 273 [(0, .inr (.inr (.inl (some (34, 0))))), (2, .inl f), (9, .inl g)] [] _ _ _
      refine ww_go 2 (pc' := 255) (L' := [(9, .inl (g + 1)), (0, .inr (.inr (.inl (some (34, 0))))), (2, .inl f)]) (st' := []) (m' := m5) (o := none) rfl trivial ?_
      refine ww_sub (L := [(0, .inr (.inr (.inl (some (34, 0))))), (2, .inl f), (9, .inl (g + 1))]) ⟨rfl, rfl, rfl, trivial⟩ rfl rfl ?_
      exact (ih _ (by omega)) (g + 1) m5 rfl (zB_mono hGm5 (by omega)) hFm5 hRm5 (by omega) (by obtain ⟨m4, m5, z1, z2, z3, z4⟩ := hT5; exact ⟨m4, m5, z1, z2, z3, zfr_tr z4 hEm5 (fun k i j z => z)⟩)
set_option maxRecDepth 8000 in
theorem yt248_l241 {sc : xSc} {n : Nat × Nat} {m0 : wm} {c : Int} (hc : 0 ≤ c ∧ c ≤ 990000) (q : Int) (f : Int) (b : Int) (i : Int) (hG : zB c m0) (hR : zRI m0) (h0 : 0 ≤ q ∧ q ≤ 31 ∧ 0 ≤ f ∧ f ≤ 7 ∧ 0 ≤ i ∧ i ≤ 6 ∧ 0 ≤ b ∧ b ≤ 1) (hs : m0.1 47 0 ((24 * q + 7).toNat) ≤ 104 ∧ (b = 0 ∨ 64 < m0.1 47 0 ((24 * q + 7).toNat))) (hb : zRb m0) : ∀ (d : Nat), ∀  (m : wm), 0 = d → zB c m → zfr (fun k i j => (k = 58) ∨ (k = 59) ∨ (k = 60) ∨ (k = 61) ∨ (k = 34 ∧ j = 30) ∨ (k = 54) ∨ (k = 55) ∨ (k = 57) ∨ (k = 56) ∨ (k = 51) ∨ (k = 52) ∨ (k = 53) ∨ (k = 71) ∨ (k = 72) ∨ (k = 34 ∧ j = 48) ∨ (k = 34 ∧ j = 47) ∨ (k = 34 ∧ j = 35)) m0 m → zRI m → (zT4 m0 m q f i b) →  wW (zK sc) zM248 241 [(0, .inr (.inr (.inl (some (34, 0))))), (2, .inl f)] [] n m (wr (fun vv n1 m1 => ∃ r : Int, vv = some (.inl r) ∧ n = n1 ∧ zB (c + 4) m1 ∧ zfr (fun k i j => (k = 58) ∨ (k = 59) ∨ (k = 60) ∨ (k = 61) ∨ (k = 34 ∧ j = 30) ∨ (k = 54) ∨ (k = 55) ∨ (k = 57) ∨ (k = 56) ∨ (k = 51) ∨ (k = 52) ∨ (k = 53) ∨ (k = 71) ∨ (k = 72) ∨ (k = 34 ∧ j = 48) ∨ (k = 34 ∧ j = 47) ∨ (k = 34 ∧ j = 35)) m0 m1 ∧ (zRI m1 ∧ ((0 ≤ r ∧ r ≤ 6) ∧ zTkR m0 m1 q f i b r)))) := by
  intro d
  induction d using Nat.strongRecOn with
  | ind d ih =>
    intro  m hd hGm hFm hRm hT4
    have zq7 : zsl m0 q 7 = m0.1 47 0 ((24 * q + 7).toNat) := rfl
    have t1 : (0 ≤ f → f.tdiv 4 = f / 4) ∧ (f < 0 → f.tdiv 4 = -((-f) / 4)) := ⟨fun z => Int.tdiv_eq_ediv_of_nonneg z, fun z => wtdiv_neg z⟩
    refine ww_go 4 (pc' := 245) (L' := [(0, .inr (.inr (.inl (some (34, 0))))), (2, .inl f)]) (st' := [.inl (f.tdiv 4), .inr (.inr (.inl (some (34, 0))))]) (m' := m) (o := some ((-2147483648 ≤ f ∧ f ≤ 2147483647 ∧ 0 < (4 : Int) ∧ (4 : Int) ≤ 2147483647))) rfl (show (-2147483648 ≤ f ∧ f ≤ 2147483647 ∧ 0 < (4 : Int) ∧ (4 : Int) ≤ 2147483647) from by omega) ?_
    refine ww_call (vs := [.inr (.inr (.inl (some (34, 0)))), .inl (f.tdiv 4)]) (r := []) (p := 0 < 1) rfl rfl rfl rfl (show 0 < 1 from by omega) (yt243 (c := c) (by omega) (f.tdiv 4) hGm hRm (by omega)) ?_
    rintro _ _ m4 ⟨rfl, rfl, hGm4, hEm4, hRm4, hr3⟩
    have hFm4 : zfr (fun k i j => (k = 58) ∨ (k = 59) ∨ (k = 60) ∨ (k = 61) ∨ (k = 34 ∧ j = 30) ∨ (k = 54) ∨ (k = 55) ∨ (k = 57) ∨ (k = 56) ∨ (k = 51) ∨ (k = 52) ∨ (k = 53) ∨ (k = 71) ∨ (k = 72) ∨ (k = 34 ∧ j = 48) ∨ (k = 34 ∧ j = 47) ∨ (k = 34 ∧ j = 35)) m0 m4 := zfr_tr hFm hEm4 (fun k i j z => Or.elim z (fun z => Or.inl z) (fun z => Or.elim z (fun z => Or.inr (Or.inl z)) (fun z => Or.elim z (fun z => Or.inr (Or.inr (Or.inl z))) (fun z => Or.elim z (fun z => Or.inr (Or.inr (Or.inr (Or.inl z)))) (fun z => Or.elim z (fun z => Or.inr (Or.inr (Or.inr (Or.inr (Or.inl z))))) (fun z => Or.elim z (fun z => Or.inr (Or.inr (Or.inr (Or.inr (Or.inr (Or.inl z)))))) (fun z => Or.elim z (fun z => Or.inr (Or.inr (Or.inr (Or.inr (Or.inr (Or.inr (Or.inl z))))))) (fun z => Or.elim z (fun z => Or.inr (Or.inr (Or.inr (Or.inr (Or.inr (Or.inr (Or.inr (Or.inl z)))))))) (fun z => Or.inr (Or.inr (Or.inr (Or.inr (Or.inr (Or.inr (Or.inr (Or.inr (Or.inl z)))))))))))))))))
    have w5 : m4.1 51 0 f.toNat = m.1 51 0 f.toNat := (hEm4 51 0 f.toNat (show ¬ ((51 = 58) ∨ (51 = 59) ∨ (51 = 60) ∨ (51 = 61) ∨ (51 = 34 ∧ f.toNat = 30) ∨ (51 = 54) ∨ (51 = 55) ∨ (51 = 57) ∨ (51 = 56)) from by omega)).1
    show wW (zK sc) zM248 248 [(0, .inr (.inr (.inl (some (34, 0))))), (2, .inl f)] [] _ _ _
    have t6 : (0 ≤ f → f.tdiv 4 = f / 4) ∧ (f < 0 → f.tdiv 4 = -((-f) / 4)) := ⟨fun z => Int.tdiv_eq_ediv_of_nonneg z, fun z => wtdiv_neg z⟩
    refine ww_go 6 (pc' := 255) (L' := [(9, .inl ((f.tdiv 4) * 4)), (0, .inr (.inr (.inl (some (34, 0))))), (2, .inl f)]) (st' := []) (m' := m4) (o := some ((-2147483648 ≤ f ∧ f ≤ 2147483647 ∧ 0 < (4 : Int) ∧ (4 : Int) ≤ 2147483647))) rfl (show (-2147483648 ≤ f ∧ f ≤ 2147483647 ∧ 0 < (4 : Int) ∧ (4 : Int) ≤ 2147483647) from by omega) ?_
    refine ww_sub (L := [(0, .inr (.inr (.inl (some (34, 0))))), (2, .inl f), (9, .inl ((f.tdiv 4) * 4))]) ⟨rfl, rfl, rfl, trivial⟩ rfl rfl ?_
    exact (yt248_l255 hc q f b i hG hR h0 hs hb _) ((f.tdiv 4) * 4) m4 rfl (zB_mono hGm4 (by omega)) hFm4 hRm4 (by omega) (by have z9 := hr3; rw [show f.tdiv 4 = f / 4 from Int.tdiv_eq_ediv_of_nonneg (by omega)] at z9; exact ⟨m, m4, hT4, z9.1, z9.2, zfr_rf⟩)
set_option maxRecDepth 8000 in
theorem yt248_l215 {sc : xSc} {n : Nat × Nat} {m0 : wm} {c : Int} (hc : 0 ≤ c ∧ c ≤ 990000) (q : Int) (f : Int) (b : Int) (i : Int) (hG : zB c m0) (hR : zRI m0) (h0 : 0 ≤ q ∧ q ≤ 31 ∧ 0 ≤ f ∧ f ≤ 7 ∧ 0 ≤ i ∧ i ≤ 6 ∧ 0 ≤ b ∧ b ≤ 1) (hs : m0.1 47 0 ((24 * q + 7).toNat) ≤ 104 ∧ (b = 0 ∨ 64 < m0.1 47 0 ((24 * q + 7).toNat))) (hb : zRb m0) : ∀ (d : Nat), ∀  (m : wm), 0 = d → zB c m → zfr (fun k i j => (k = 58) ∨ (k = 59) ∨ (k = 60) ∨ (k = 61) ∨ (k = 34 ∧ j = 30) ∨ (k = 54) ∨ (k = 55) ∨ (k = 57) ∨ (k = 56) ∨ (k = 51) ∨ (k = 52) ∨ (k = 53) ∨ (k = 71) ∨ (k = 72) ∨ (k = 34 ∧ j = 48) ∨ (k = 34 ∧ j = 47) ∨ (k = 34 ∧ j = 35)) m0 m → zRI m → (1 ≤ i ∨ m.1 51 0 f.toNat ≠ 1) → (zT3 m0 m q f i b) →  wW (zK sc) zM248 215 [(0, .inr (.inr (.inl (some (34, 0))))), (2, .inl f), (3, .inl (7 * f + i))] [] n m (wr (fun vv n1 m1 => ∃ r : Int, vv = some (.inl r) ∧ n = n1 ∧ zB (c + 4) m1 ∧ zfr (fun k i j => (k = 58) ∨ (k = 59) ∨ (k = 60) ∨ (k = 61) ∨ (k = 34 ∧ j = 30) ∨ (k = 54) ∨ (k = 55) ∨ (k = 57) ∨ (k = 56) ∨ (k = 51) ∨ (k = 52) ∨ (k = 53) ∨ (k = 71) ∨ (k = 72) ∨ (k = 34 ∧ j = 48) ∨ (k = 34 ∧ j = 47) ∨ (k = 34 ∧ j = 35)) m0 m1 ∧ (zRI m1 ∧ ((0 ≤ r ∧ r ≤ 6) ∧ zTkR m0 m1 q f i b r)))) := by
  intro d
  induction d using Nat.strongRecOn with
  | ind d ih =>
    intro  m hd hGm hFm hRm hng hT3
    have zq7 : zsl m0 q 7 = m0.1 47 0 ((24 * q + 7).toNat) := rfl
    refine ww_go 2 (pc' := 217) (L' := [(0, .inr (.inr (.inl (some (34, 0))))), (2, .inl f), (3, .inl (7 * f + i))]) (st' := [.inl (7 * f + i), .inr (.inr (.inl (some (34, 0))))]) (m' := m) (o := none) rfl trivial ?_
    refine ww_call (vs := [.inr (.inr (.inl (some (34, 0)))), .inl (7 * f + i)]) (r := []) (p := 0 < 1) rfl rfl rfl rfl (show 0 < 1 from by omega) (zs209 (c := c) (by omega) (7 * f + i) hGm (by omega)) ?_
    rintro _ _ _ ⟨r1, rfl, rfl, rfl, hr2⟩
    show wW (zK sc) zM248 220 [(0, .inr (.inr (.inl (some (34, 0))))), (2, .inl f), (3, .inl (7 * f + i))] [.inl r1] _ _ _
    refine ww_if (t := 279) rfl rfl (by omega) (fun (h3 : r1 = 0) => ?_) (fun (h3 : ¬ (r1 = 0)) => ?_)
    · show wW (zK sc) zM248 279 [(0, .inr (.inr (.inl (some (34, 0))))), (2, .inl f), (3, .inl (7 * f + i))] [] _ _ _
      refine ww_go 1 (pc' := 280) (L' := [(0, .inr (.inr (.inl (some (34, 0))))), (2, .inl f), (3, .inl (7 * f + i))]) (st' := [.inl 0]) (m' := m) (o := none) rfl trivial ?_
      exact ww_rI rfl rfl ⟨_, rfl, rfl, zB_mono hGm (by omega), hFm, ⟨hRm, ⟨by omega, Or.inr (Or.inr (Or.inr ⟨rfl, Or.inl ⟨m, hT3, (fun zz => (by obtain ⟨⟨z1, z2, z3⟩, z4⟩ := zz; first | omega | exact hr2.elim (fun z => absurd z.1 (by omega)) (fun z => by omega))), rfl⟩⟩))⟩⟩⟩
    · show wW (zK sc) zM248 223 [(0, .inr (.inr (.inl (some (34, 0))))), (2, .inl f), (3, .inl (7 * f + i))] [] _ _ _
      have b4 : 0 ≤ m.1 57 0 ((7 * f + i).toNat) ∧ m.1 57 0 ((7 * f + i).toNat) ≤ 1 := hGm.1 57 _ rfl _ _
      refine ww_go 4 (pc' := 229) (L' := [(0, .inr (.inr (.inl (some (34, 0))))), (2, .inl f), (3, .inl (7 * f + i))]) (st' := [.inl (m.1 57 0 ((7 * f + i).toNat))]) (m' := m) (o := some ((0 < 1) ∧ (0 < 1 ∧ 0 ≤ 7 * f + i ∧ 7 * f + i < ((56 : Nat) : Int)))) rfl (show (0 < 1) ∧ (0 < 1 ∧ 0 ≤ 7 * f + i ∧ 7 * f + i < ((56 : Nat) : Int)) from by omega) ?_
      refine ww_if (t := 279) rfl rfl (by omega) (fun (h5 : m.1 57 0 ((7 * f + i).toNat) ≠ 0) => ?_) (fun (h5 : ¬ (m.1 57 0 ((7 * f + i).toNat) ≠ 0)) => ?_)
      · show wW (zK sc) zM248 279 [(0, .inr (.inr (.inl (some (34, 0))))), (2, .inl f), (3, .inl (7 * f + i))] [] _ _ _
        refine ww_go 1 (pc' := 280) (L' := [(0, .inr (.inr (.inl (some (34, 0))))), (2, .inl f), (3, .inl (7 * f + i))]) (st' := [.inl 0]) (m' := m) (o := none) rfl trivial ?_
        exact ww_rI rfl rfl ⟨_, rfl, rfl, zB_mono hGm (by omega), hFm, ⟨hRm, ⟨by omega, Or.inr (Or.inr (Or.inr ⟨rfl, Or.inl ⟨m, hT3, (fun zz => (by obtain ⟨⟨z1, z2, z3⟩, z4⟩ := zz; first | omega | exact hr2.elim (fun z => absurd z.1 (by omega)) (fun z => by omega))), rfl⟩⟩))⟩⟩⟩
      · show wW (zK sc) zM248 232 [(0, .inr (.inr (.inl (some (34, 0))))), (2, .inl f), (3, .inl (7 * f + i))] [] _ _ _
        have t6 : (0 ≤ (7 * f + i) → (7 * f + i).tmod 7 = (7 * f + i) % 7) ∧ ((7 * f + i) < 0 → (7 * f + i).tmod 7 = -((-((7 * f + i))) % 7)) := ⟨fun z => Int.tmod_eq_emod_of_nonneg z, fun z => wtmod_neg z⟩
        refine ww_go 5 (pc' := 238) (L' := [(0, .inr (.inr (.inl (some (34, 0))))), (2, .inl f), (3, .inl (7 * f + i))]) (st' := [.inl ((7 * f + i).tmod 7), .inl f, .inr (.inr (.inl (some (34, 0))))]) (m' := m) (o := some ((-2147483648 ≤ 7 * f + i ∧ 7 * f + i ≤ 2147483647 ∧ 0 < (7 : Int) ∧ (7 : Int) ≤ 2147483647))) rfl (show (-2147483648 ≤ 7 * f + i ∧ 7 * f + i ≤ 2147483647 ∧ 0 < (7 : Int) ∧ (7 : Int) ≤ 2147483647) from by omega) ?_
        rw [show (7 * f + i).tmod 7 = i from by omega]
        show wW (zK sc) zM248 238 [(0, .inr (.inr (.inl (some (34, 0))))), (2, .inl f), (3, .inl (7 * f + i))] [.inl i, .inl f, .inr (.inr (.inl (some (34, 0))))] _ _ _
        refine ww_call (vs := [.inr (.inr (.inl (some (34, 0)))), .inl f, .inl i]) (r := []) (p := 0 < 1) rfl rfl rfl rfl (show 0 < 1 from by omega) (yt190 (c := c) (by omega) f i hGm hRm (by omega) (by exact ⟨by omega, by omega, by omega, fun z => by omega⟩)) ?_
        rintro _ _ m9 ⟨rfl, rfl, hGm9, hEm9, hRm9, hr8⟩
        have hFm9 : zfr (fun k i j => (k = 58) ∨ (k = 59) ∨ (k = 60) ∨ (k = 61) ∨ (k = 34 ∧ j = 30) ∨ (k = 54) ∨ (k = 55) ∨ (k = 57) ∨ (k = 56) ∨ (k = 51) ∨ (k = 52) ∨ (k = 53) ∨ (k = 71) ∨ (k = 72) ∨ (k = 34 ∧ j = 48) ∨ (k = 34 ∧ j = 47) ∨ (k = 34 ∧ j = 35)) m0 m9 := zfr_tr hFm hEm9 (fun k i j z => Or.elim z (fun z => Or.inl z) (fun z => Or.elim z (fun z => Or.inr (Or.inl z)) (fun z => Or.elim z (fun z => Or.inr (Or.inr (Or.inl z))) (fun z => Or.elim z (fun z => Or.inr (Or.inr (Or.inr (Or.inl z)))) (fun z => Or.elim z (fun z => Or.inr (Or.inr (Or.inr (Or.inr (Or.inl z))))) (fun z => Or.elim z (fun z => Or.inr (Or.inr (Or.inr (Or.inr (Or.inr (Or.inl z)))))) (fun z => Or.elim z (fun z => Or.inr (Or.inr (Or.inr (Or.inr (Or.inr (Or.inr (Or.inl z))))))) (fun z => Or.elim z (fun z => Or.inr (Or.inr (Or.inr (Or.inr (Or.inr (Or.inr (Or.inr (Or.inl z)))))))) (fun z => Or.elim z (fun z => Or.inr (Or.inr (Or.inr (Or.inr (Or.inr (Or.inr (Or.inr (Or.inr (Or.inr (Or.inl z)))))))))) (fun z => Or.inr (Or.inr (Or.inr (Or.inr (Or.inr (Or.inr (Or.inr (Or.inr (Or.inr (Or.inr (Or.inl z))))))))))))))))))))
        show wW (zK sc) zM248 241 [(0, .inr (.inr (.inl (some (34, 0))))), (2, .inl f), (3, .inl (7 * f + i))] [] _ _ _
        refine ww_sub (L := [(0, .inr (.inr (.inl (some (34, 0))))), (2, .inl f)]) ⟨rfl, rfl, trivial⟩ rfl rfl ?_
        exact (yt248_l241 hc q f b i hG hR h0 hs hb _)  m9 rfl (zB_mono hGm9 (by omega)) hFm9 hRm9 (by exact ⟨m, hT3, ⟨hr2.elim (fun z => z.2) (fun z => absurd z.1 (by omega)), by omega⟩, hr8⟩)
set_option maxRecDepth 8000 in
theorem yt248_l194 {sc : xSc} {n : Nat × Nat} {m0 : wm} {c : Int} (hc : 0 ≤ c ∧ c ≤ 990000) (q : Int) (f : Int) (b : Int) (i : Int) (hG : zB c m0) (hR : zRI m0) (h0 : 0 ≤ q ∧ q ≤ 31 ∧ 0 ≤ f ∧ f ≤ 7 ∧ 0 ≤ i ∧ i ≤ 6 ∧ 0 ≤ b ∧ b ≤ 1) (hs : m0.1 47 0 ((24 * q + 7).toNat) ≤ 104 ∧ (b = 0 ∨ 64 < m0.1 47 0 ((24 * q + 7).toNat))) (hb : zRb m0) : ∀ (d : Nat), ∀ (u : Int) (m : wm), 0 = d → zB c m → zfr (fun k i j => (k = 58) ∨ (k = 59) ∨ (k = 60) ∨ (k = 61) ∨ (k = 34 ∧ j = 30) ∨ (k = 54) ∨ (k = 55) ∨ (k = 57) ∨ (k = 56) ∨ (k = 51) ∨ (k = 52) ∨ (k = 53) ∨ (k = 71) ∨ (k = 72) ∨ (k = 34 ∧ j = 48) ∨ (k = 34 ∧ j = 47) ∨ (k = 34 ∧ j = 35)) m0 m → zRI m → (1 ≤ u ∧ u ≤ 8) → (1 ≤ i ∨ m.1 51 0 f.toNat ≠ 1) → (zT2 m0 m q f i b) → (u = zTn m0 q b) → (zRb m) →  wW (zK sc) zM248 194 [(0, .inr (.inr (.inl (some (34, 0))))), (2, .inl f), (3, .inl (7 * f + i)), (4, .inl b), (7, .inl u)] [] n m (wr (fun vv n1 m1 => ∃ r : Int, vv = some (.inl r) ∧ n = n1 ∧ zB (c + 4) m1 ∧ zfr (fun k i j => (k = 58) ∨ (k = 59) ∨ (k = 60) ∨ (k = 61) ∨ (k = 34 ∧ j = 30) ∨ (k = 54) ∨ (k = 55) ∨ (k = 57) ∨ (k = 56) ∨ (k = 51) ∨ (k = 52) ∨ (k = 53) ∨ (k = 71) ∨ (k = 72) ∨ (k = 34 ∧ j = 48) ∨ (k = 34 ∧ j = 47) ∨ (k = 34 ∧ j = 35)) m0 m1 ∧ (zRI m1 ∧ ((0 ≤ r ∧ r ≤ 6) ∧ zTkR m0 m1 q f i b r)))) := by
  intro d
  induction d using Nat.strongRecOn with
  | ind d ih =>
    intro u m hd hGm hFm hRm hi hng hT2 hu hb9
    have zq7 : zsl m0 q 7 = m0.1 47 0 ((24 * q + 7).toNat) := rfl
    refine ww_go 3 (pc' := 198) (L' := [(0, .inr (.inr (.inl (some (34, 0))))), (2, .inl f), (3, .inl (7 * f + i)), (4, .inl b), (7, .inl u)]) (st' := [.inl b, .inl (7 * f + i), .inr (.inr (.inl (some (34, 0))))]) (m' := m) (o := none) rfl trivial ?_
    refine ww_call (vs := [.inr (.inr (.inl (some (34, 0)))), .inl (7 * f + i), .inl b]) (r := []) (p := 0 < 1) rfl rfl rfl rfl (show 0 < 1 from by omega) (yt240 (c := c) (by omega) (7 * f + i) b hGm (by omega)) ?_
    rintro _ _ _ ⟨r1, rfl, rfl, rfl, hr2⟩
    show wW (zK sc) zM248 201 [(0, .inr (.inr (.inl (some (34, 0))))), (2, .inl f), (3, .inl (7 * f + i)), (4, .inl b), (7, .inl u)] [.inl r1] _ _ _
    refine ww_go 1 (pc' := 203) (L' := [(0, .inr (.inr (.inl (some (34, 0))))), (2, .inl f), (3, .inl (7 * f + i)), (4, .inl b), (7, .inl u)]) (st' := [.inl u, .inl r1]) (m' := m) (o := none) rfl trivial ?_
    refine ww_ic (t := 215) rfl rfl (by omega) (fun (h3 : r1 ≠ u) => ?_) (fun (h3 : ¬ (r1 ≠ u)) => ?_)
    · show wW (zK sc) zM248 215 [(0, .inr (.inr (.inl (some (34, 0))))), (2, .inl f), (3, .inl (7 * f + i)), (4, .inl b), (7, .inl u)] [] _ _ _
      refine ww_sub (L := [(0, .inr (.inr (.inl (some (34, 0))))), (2, .inl f), (3, .inl (7 * f + i))]) ⟨rfl, rfl, rfl, trivial⟩ rfl rfl ?_
      exact (yt248_l215 hc q f b i hG hR h0 hs hb _)  m rfl (zB_mono hGm (by omega)) hFm hRm (by first | exact hng | exact hng.imp id (fun z => by omega)) (by exact ⟨m, hT2, Or.inr ⟨(by rw [← hu, ← hr2.2]; omega), rfl⟩⟩)
    · show wW (zK sc) zM248 206 [(0, .inr (.inr (.inl (some (34, 0))))), (2, .inl f), (3, .inl (7 * f + i)), (4, .inl b), (7, .inl u)] [] _ _ _
      refine ww_go 4 (pc' := 212) (L' := [(0, .inr (.inr (.inl (some (34, 0))))), (2, .inl f), (3, .inl (7 * f + i)), (4, .inl b), (7, .inl u)]) (st' := [.inl u, .inl b, .inl (7 * f + i), .inr (.inr (.inl (some (34, 0))))]) (m' := m) (o := none) rfl trivial ?_
      refine ww_call (vs := [.inr (.inr (.inl (some (34, 0)))), .inl (7 * f + i), .inl b, .inl u]) (r := []) (p := 0 < 1) rfl rfl rfl rfl (show 0 < 1 from by omega) (yt246 (c := c) (by omega) b u _ _ hGm hRm (by omega) hng hb9) ?_
      rintro _ _ m6 ⟨rfl, rfl, hGm6, hEm6, hRm6, hr5⟩
      have hFm6 : zfr (fun k i j => (k = 58) ∨ (k = 59) ∨ (k = 60) ∨ (k = 61) ∨ (k = 34 ∧ j = 30) ∨ (k = 54) ∨ (k = 55) ∨ (k = 57) ∨ (k = 56) ∨ (k = 51) ∨ (k = 52) ∨ (k = 53) ∨ (k = 71) ∨ (k = 72) ∨ (k = 34 ∧ j = 48) ∨ (k = 34 ∧ j = 47) ∨ (k = 34 ∧ j = 35)) m0 m6 := zfr_tr hFm hEm6 (fun k i j z => Or.elim z (fun z => Or.inl z) (fun z => Or.elim z (fun z => Or.inr (Or.inl z)) (fun z => Or.elim z (fun z => Or.inr (Or.inr (Or.inl z))) (fun z => Or.elim z (fun z => Or.inr (Or.inr (Or.inr (Or.inl z)))) (fun z => Or.elim z (fun z => Or.inr (Or.inr (Or.inr (Or.inr (Or.inl z))))) (fun z => Or.elim z (fun z => Or.inr (Or.inr (Or.inr (Or.inr (Or.inr (Or.inr (Or.inr (Or.inr (Or.inl z))))))))) (fun z => Or.inr (Or.inr (Or.inr (Or.inr (Or.inr (Or.inr (Or.inl z)))))))))))))
      have w7 : m6.1 54 0 ((7 * f + i).toNat) = m.1 54 0 ((7 * f + i).toNat) := (hEm6 54 0 ((7 * f + i).toNat) (show ¬ ((54 = 58) ∨ (54 = 59) ∨ (54 = 60) ∨ (54 = 61) ∨ (54 = 34 ∧ ((7 * f + i).toNat) = 30) ∨ (54 = 56) ∨ (54 = 55)) from by omega)).1
      have w8 : m6.1 51 0 f.toNat = m.1 51 0 f.toNat := (hEm6 51 0 f.toNat (show ¬ ((51 = 58) ∨ (51 = 59) ∨ (51 = 60) ∨ (51 = 61) ∨ (51 = 34 ∧ f.toNat = 30) ∨ (51 = 56) ∨ (51 = 55)) from by omega)).1
      show wW (zK sc) zM248 215 [(0, .inr (.inr (.inl (some (34, 0))))), (2, .inl f), (3, .inl (7 * f + i)), (4, .inl b), (7, .inl u)] [] _ _ _
      refine ww_sub (L := [(0, .inr (.inr (.inl (some (34, 0))))), (2, .inl f), (3, .inl (7 * f + i))]) ⟨rfl, rfl, rfl, trivial⟩ rfl rfl ?_
      exact (yt248_l215 hc q f b i hG hR h0 hs hb _)  m6 rfl (zB_mono hGm6 (by omega)) hFm6 hRm6 (by first | exact hng | exact hng.imp id (fun z => by omega)) (by exact ⟨m, hT2, Or.inl ⟨(by rw [← hu, ← hr2.2]; omega), (by rw [← hu]; exact hr5.2)⟩⟩)
set_option maxRecDepth 8000 in
theorem yt248_l128 {sc : xSc} {n : Nat × Nat} {m0 : wm} {c : Int} (hc : 0 ≤ c ∧ c ≤ 990000) (q : Int) (f : Int) (b : Int) (i : Int) (hG : zB c m0) (hR : zRI m0) (h0 : 0 ≤ q ∧ q ≤ 31 ∧ 0 ≤ f ∧ f ≤ 7 ∧ 0 ≤ i ∧ i ≤ 6 ∧ 0 ≤ b ∧ b ≤ 1) (hs : m0.1 47 0 ((24 * q + 7).toNat) ≤ 104 ∧ (b = 0 ∨ 64 < m0.1 47 0 ((24 * q + 7).toNat))) (hb : zRb m0) : ∀ (d : Nat), ∀ (y : Int) (u : Int) (z : Int) (m : wm), 0 = d → zB c m → zfr (fun k i j => (k = 58) ∨ (k = 59) ∨ (k = 60) ∨ (k = 61) ∨ (k = 34 ∧ j = 30) ∨ (k = 54) ∨ (k = 55) ∨ (k = 57) ∨ (k = 56) ∨ (k = 51) ∨ (k = 52) ∨ (k = 53) ∨ (k = 71) ∨ (k = 72) ∨ (k = 34 ∧ j = 48) ∨ (k = 34 ∧ j = 47) ∨ (k = 34 ∧ j = 35)) m0 m → zRI m → (0 ≤ y ∧ y ≤ 104 ∧ (b = 0 ∨ 64 < y) ∧ 1 ≤ u ∧ u ≤ 8 ∧ 0 ≤ z ∧ z ≤ 255 ∧ (m.1 54 0 ((7 * f + i).toNat) = y ∨ m.1 54 0 ((7 * f + i).toNat) < 0) ∧ m.1 55 0 (2 * (7 * f + i) + b).toNat = 0 ∧ m.1 34 0 30 ≤ 23) → (zT1 m0 m q f i b) → (u = zTn m0 q b ∧ z = zTM m0 q f i b ∧ y = zsl m0 q 7) → (zRb m) →  wW (zK sc) zM248 128 [(0, .inr (.inr (.inl (some (34, 0))))), (1, .inl q), (2, .inl f), (3, .inl (7 * f + i)), (4, .inl b), (5, .inl (24 * q)), (6, .inl y), (7, .inl u), (8, .inl z)] [] n m (wr (fun vv n1 m1 => ∃ r : Int, vv = some (.inl r) ∧ n = n1 ∧ zB (c + 4) m1 ∧ zfr (fun k i j => (k = 58) ∨ (k = 59) ∨ (k = 60) ∨ (k = 61) ∨ (k = 34 ∧ j = 30) ∨ (k = 54) ∨ (k = 55) ∨ (k = 57) ∨ (k = 56) ∨ (k = 51) ∨ (k = 52) ∨ (k = 53) ∨ (k = 71) ∨ (k = 72) ∨ (k = 34 ∧ j = 48) ∨ (k = 34 ∧ j = 47) ∨ (k = 34 ∧ j = 35)) m0 m1 ∧ (zRI m1 ∧ ((0 ≤ r ∧ r ≤ 6) ∧ zTkR m0 m1 q f i b r)))) := by
  intro d
  induction d using Nat.strongRecOn with
  | ind d ih =>
    intro y u z m hd hGm hFm hRm hi hT1 hu hb9
    have zq7 : zsl m0 q 7 = m0.1 47 0 ((24 * q + 7).toNat) := rfl
    have b1 : 0 ≤ m.1 34 0 30 ∧ m.1 34 0 30 ≤ 24 := hGm.1 34 _ rfl _ _
    refine ww_go 6 (pc' := 138) (L' := [(0, .inr (.inr (.inl (some (34, 0))))), (1, .inl q), (2, .inl f), (3, .inl (7 * f + i)), (4, .inl b), (5, .inl (24 * q)), (6, .inl y), (7, .inl u), (8, .inl z)]) (st' := []) (m' := wuI m 58 0 ((m.1 34 0 30).toNat) (7 * f + i)) (o := some ((0 < 1) ∧ (0 < 1) ∧ (0 < 1 ∧ 0 ≤ m.1 34 0 30 ∧ m.1 34 0 30 < ((24 : Nat) : Int)))) rfl (show (0 < 1) ∧ (0 < 1) ∧ (0 < 1 ∧ 0 ≤ m.1 34 0 30 ∧ m.1 34 0 30 < ((24 : Nat) : Int)) from by omega) ?_
    obtain ⟨m2, hm2⟩ : ∃ zq9 : wm, zq9 = wuI m 58 0 ((m.1 34 0 30).toNat) (7 * f + i) := ⟨_, rfl⟩
    rw [← hm2]
    have hGm2 : zB c m2 := by rw [hm2]; exact zB_wI rfl (show 0 ≤ 7 * f + i ∧ 7 * f + i ≤ 55 from by omega) hGm
    have hFm2 : zfr (fun k i j => (k = 58) ∨ (k = 59) ∨ (k = 60) ∨ (k = 61) ∨ (k = 34 ∧ j = 30) ∨ (k = 54) ∨ (k = 55) ∨ (k = 57) ∨ (k = 56) ∨ (k = 51) ∨ (k = 52) ∨ (k = 53) ∨ (k = 71) ∨ (k = 72) ∨ (k = 34 ∧ j = 48) ∨ (k = 34 ∧ j = 47) ∨ (k = 34 ∧ j = 35)) m0 m2 := by rw [hm2]; exact zfr_wI hFm (show (58 = 58) ∨ (58 = 59) ∨ (58 = 60) ∨ (58 = 61) ∨ (58 = 34 ∧ ((m.1 34 0 30).toNat) = 30) ∨ (58 = 54) ∨ (58 = 55) ∨ (58 = 57) ∨ (58 = 56) ∨ (58 = 51) ∨ (58 = 52) ∨ (58 = 53) ∨ (58 = 71) ∨ (58 = 72) ∨ (58 = 34 ∧ ((m.1 34 0 30).toNat) = 48) ∨ (58 = 34 ∧ ((m.1 34 0 30).toNat) = 47) ∨ (58 = 34 ∧ ((m.1 34 0 30).toNat) = 35) from Or.inl rfl)
    have s3 : m2.1 58 0 ((m.1 34 0 30).toNat) = 7 * f + i := by rw [hm2]; exact wuI_self
    have w4 : m2.1 54 0 ((7 * f + i).toNat) = m.1 54 0 ((7 * f + i).toNat) := by rw [hm2]; rfl
    have w5 : m2.1 55 0 ((2 * (7 * f + i) + b).toNat) = m.1 55 0 ((2 * (7 * f + i) + b).toNat) := by rw [hm2]; rfl
    have w6 : m2.1 51 0 f.toNat = m.1 51 0 f.toNat := by rw [hm2]; rfl
    have w7 : m2.1 34 0 30 = m.1 34 0 30 := by rw [hm2]; rfl
    have hRm2 : zRI m2 := by rw [hm2]; exact zRI_wo (by decide) hRm
    have b8 : 0 ≤ m2.1 34 0 30 ∧ m2.1 34 0 30 ≤ 24 := hGm2.1 34 _ rfl _ _
    refine ww_go 6 (pc' := 149) (L' := [(0, .inr (.inr (.inl (some (34, 0))))), (1, .inl q), (2, .inl f), (3, .inl (7 * f + i)), (4, .inl b), (5, .inl (24 * q)), (6, .inl y), (7, .inl u), (8, .inl z)]) (st' := []) (m' := wuI m2 59 0 ((m2.1 34 0 30).toNat) b) (o := some ((0 < 1) ∧ (0 < 1) ∧ (0 < 1 ∧ 0 ≤ m2.1 34 0 30 ∧ m2.1 34 0 30 < ((24 : Nat) : Int)))) rfl (show (0 < 1) ∧ (0 < 1) ∧ (0 < 1 ∧ 0 ≤ m2.1 34 0 30 ∧ m2.1 34 0 30 < ((24 : Nat) : Int)) from by omega) ?_
    obtain ⟨m9, hm9⟩ : ∃ zq9 : wm, zq9 = wuI m2 59 0 ((m2.1 34 0 30).toNat) b := ⟨_, rfl⟩
    rw [← hm9]
    have hGm9 : zB c m9 := by rw [hm9]; exact zB_wI rfl (show 0 ≤ b ∧ b ≤ 1 from by omega) hGm2
    have hFm9 : zfr (fun k i j => (k = 58) ∨ (k = 59) ∨ (k = 60) ∨ (k = 61) ∨ (k = 34 ∧ j = 30) ∨ (k = 54) ∨ (k = 55) ∨ (k = 57) ∨ (k = 56) ∨ (k = 51) ∨ (k = 52) ∨ (k = 53) ∨ (k = 71) ∨ (k = 72) ∨ (k = 34 ∧ j = 48) ∨ (k = 34 ∧ j = 47) ∨ (k = 34 ∧ j = 35)) m0 m9 := by rw [hm9]; exact zfr_wI hFm2 (show (59 = 58) ∨ (59 = 59) ∨ (59 = 60) ∨ (59 = 61) ∨ (59 = 34 ∧ ((m2.1 34 0 30).toNat) = 30) ∨ (59 = 54) ∨ (59 = 55) ∨ (59 = 57) ∨ (59 = 56) ∨ (59 = 51) ∨ (59 = 52) ∨ (59 = 53) ∨ (59 = 71) ∨ (59 = 72) ∨ (59 = 34 ∧ ((m2.1 34 0 30).toNat) = 48) ∨ (59 = 34 ∧ ((m2.1 34 0 30).toNat) = 47) ∨ (59 = 34 ∧ ((m2.1 34 0 30).toNat) = 35) from Or.inr (Or.inl rfl))
    have s10 : m9.1 59 0 ((m2.1 34 0 30).toNat) = b := by rw [hm9]; exact wuI_self
    have w11 : m9.1 54 0 ((7 * f + i).toNat) = m2.1 54 0 ((7 * f + i).toNat) := by rw [hm9]; rfl
    have w12 : m9.1 55 0 ((2 * (7 * f + i) + b).toNat) = m2.1 55 0 ((2 * (7 * f + i) + b).toNat) := by rw [hm9]; rfl
    have w13 : m9.1 51 0 f.toNat = m2.1 51 0 f.toNat := by rw [hm9]; rfl
    have w14 : m9.1 34 0 30 = m2.1 34 0 30 := by rw [hm9]; rfl
    have hRm9 : zRI m9 := by rw [hm9]; exact zRI_wo (by decide) hRm2
    have b15 : 0 ≤ m9.1 34 0 30 ∧ m9.1 34 0 30 ≤ 24 := hGm9.1 34 _ rfl _ _
    refine ww_go 6 (pc' := 160) (L' := [(0, .inr (.inr (.inl (some (34, 0))))), (1, .inl q), (2, .inl f), (3, .inl (7 * f + i)), (4, .inl b), (5, .inl (24 * q)), (6, .inl y), (7, .inl u), (8, .inl z)]) (st' := []) (m' := wuI m9 60 0 ((m9.1 34 0 30).toNat) z) (o := some ((0 < 1) ∧ (0 < 1) ∧ (0 < 1 ∧ 0 ≤ m9.1 34 0 30 ∧ m9.1 34 0 30 < ((24 : Nat) : Int)))) rfl (show (0 < 1) ∧ (0 < 1) ∧ (0 < 1 ∧ 0 ≤ m9.1 34 0 30 ∧ m9.1 34 0 30 < ((24 : Nat) : Int)) from by omega) ?_
    obtain ⟨m16, hm16⟩ : ∃ zq9 : wm, zq9 = wuI m9 60 0 ((m9.1 34 0 30).toNat) z := ⟨_, rfl⟩
    rw [← hm16]
    have hGm16 : zB c m16 := by rw [hm16]; exact zB_wI rfl (show (-2147483648) ≤ z ∧ z ≤ 2147483647 from by omega) hGm9
    have hFm16 : zfr (fun k i j => (k = 58) ∨ (k = 59) ∨ (k = 60) ∨ (k = 61) ∨ (k = 34 ∧ j = 30) ∨ (k = 54) ∨ (k = 55) ∨ (k = 57) ∨ (k = 56) ∨ (k = 51) ∨ (k = 52) ∨ (k = 53) ∨ (k = 71) ∨ (k = 72) ∨ (k = 34 ∧ j = 48) ∨ (k = 34 ∧ j = 47) ∨ (k = 34 ∧ j = 35)) m0 m16 := by rw [hm16]; exact zfr_wI hFm9 (show (60 = 58) ∨ (60 = 59) ∨ (60 = 60) ∨ (60 = 61) ∨ (60 = 34 ∧ ((m9.1 34 0 30).toNat) = 30) ∨ (60 = 54) ∨ (60 = 55) ∨ (60 = 57) ∨ (60 = 56) ∨ (60 = 51) ∨ (60 = 52) ∨ (60 = 53) ∨ (60 = 71) ∨ (60 = 72) ∨ (60 = 34 ∧ ((m9.1 34 0 30).toNat) = 48) ∨ (60 = 34 ∧ ((m9.1 34 0 30).toNat) = 47) ∨ (60 = 34 ∧ ((m9.1 34 0 30).toNat) = 35) from Or.inr (Or.inr (Or.inl rfl)))
    have s17 : m16.1 60 0 ((m9.1 34 0 30).toNat) = z := by rw [hm16]; exact wuI_self
    have w18 : m16.1 54 0 ((7 * f + i).toNat) = m9.1 54 0 ((7 * f + i).toNat) := by rw [hm16]; rfl
    have w19 : m16.1 55 0 ((2 * (7 * f + i) + b).toNat) = m9.1 55 0 ((2 * (7 * f + i) + b).toNat) := by rw [hm16]; rfl
    have w20 : m16.1 51 0 f.toNat = m9.1 51 0 f.toNat := by rw [hm16]; rfl
    have w21 : m16.1 34 0 30 = m9.1 34 0 30 := by rw [hm16]; rfl
    have hRm16 : zRI m16 := by rw [hm16]; exact zRI_wo (by decide) hRm9
    have b22 : 0 ≤ m16.1 34 0 30 ∧ m16.1 34 0 30 ≤ 24 := hGm16.1 34 _ rfl _ _
    refine ww_go 7 (pc' := 172) (L' := [(0, .inr (.inr (.inl (some (34, 0))))), (1, .inl q), (2, .inl f), (3, .inl (7 * f + i)), (4, .inl b), (5, .inl (24 * q)), (6, .inl y), (7, .inl u), (8, .inl z)]) (st' := [.inl 8, .inl q, .inr (.inr (.inl (some (34, 0)))), .inl (m16.1 34 0 30), .inr (.inr (.inl (some (61, 0))))]) (m' := m16) (o := some ((0 < 1) ∧ (0 < 1))) rfl (show (0 < 1) ∧ (0 < 1) from by omega) ?_
    refine ww_call (vs := [.inr (.inr (.inl (some (34, 0)))), .inl q, .inl 8]) (r := [.inl (m16.1 34 0 30), .inr (.inr (.inl (some (61, 0))))]) (p := 0 < 1) rfl rfl rfl rfl (show 0 < 1 from by omega) (zs194 (c := c) (by omega) q 8 hGm16 (by omega)) ?_
    rintro _ _ _ ⟨r23, rfl, rfl, rfl, hr24⟩
    show wW (zK sc) zM248 175 [(0, .inr (.inr (.inl (some (34, 0))))), (1, .inl q), (2, .inl f), (3, .inl (7 * f + i)), (4, .inl b), (5, .inl (24 * q)), (6, .inl y), (7, .inl u), (8, .inl z)] [.inr (.inl r23), .inl (m16.1 34 0 30), .inr (.inr (.inl (some (61, 0))))] _ _ _
    refine ww_go 1 (pc' := 176) (L' := [(0, .inr (.inr (.inl (some (34, 0))))), (1, .inl q), (2, .inl f), (3, .inl (7 * f + i)), (4, .inl b), (5, .inl (24 * q)), (6, .inl y), (7, .inl u), (8, .inl z)]) (st' := []) (m' := wuL m16 61 0 ((m16.1 34 0 30).toNat) r23) (o := some ((0 < 1 ∧ 0 ≤ m16.1 34 0 30 ∧ m16.1 34 0 30 < ((24 : Nat) : Int)))) rfl (show (0 < 1 ∧ 0 ≤ m16.1 34 0 30 ∧ m16.1 34 0 30 < ((24 : Nat) : Int)) from by omega) ?_
    obtain ⟨m25, hm25⟩ : ∃ zq9 : wm, zq9 = wuL m16 61 0 ((m16.1 34 0 30).toNat) r23 := ⟨_, rfl⟩
    rw [← hm25]
    have hGm25 : zB c m25 := by rw [hm25]; exact zB_wL hGm16
    have hFm25 : zfr (fun k i j => (k = 58) ∨ (k = 59) ∨ (k = 60) ∨ (k = 61) ∨ (k = 34 ∧ j = 30) ∨ (k = 54) ∨ (k = 55) ∨ (k = 57) ∨ (k = 56) ∨ (k = 51) ∨ (k = 52) ∨ (k = 53) ∨ (k = 71) ∨ (k = 72) ∨ (k = 34 ∧ j = 48) ∨ (k = 34 ∧ j = 47) ∨ (k = 34 ∧ j = 35)) m0 m25 := by rw [hm25]; exact zfr_wL hFm16 (show (61 = 58) ∨ (61 = 59) ∨ (61 = 60) ∨ (61 = 61) ∨ (61 = 34 ∧ ((m16.1 34 0 30).toNat) = 30) ∨ (61 = 54) ∨ (61 = 55) ∨ (61 = 57) ∨ (61 = 56) ∨ (61 = 51) ∨ (61 = 52) ∨ (61 = 53) ∨ (61 = 71) ∨ (61 = 72) ∨ (61 = 34 ∧ ((m16.1 34 0 30).toNat) = 48) ∨ (61 = 34 ∧ ((m16.1 34 0 30).toNat) = 47) ∨ (61 = 34 ∧ ((m16.1 34 0 30).toNat) = 35) from Or.inr (Or.inr (Or.inr (Or.inl rfl))))
    have w26 : m25.1 54 0 ((7 * f + i).toNat) = m16.1 54 0 ((7 * f + i).toNat) := by rw [hm25]; rfl
    have w27 : m25.1 55 0 ((2 * (7 * f + i) + b).toNat) = m16.1 55 0 ((2 * (7 * f + i) + b).toNat) := by rw [hm25]; rfl
    have w28 : m25.1 51 0 f.toNat = m16.1 51 0 f.toNat := by rw [hm25]; rfl
    have w29 : m25.1 34 0 30 = m16.1 34 0 30 := by rw [hm25]; rfl
    have hRm25 : zRI m25 := by rw [hm25]; exact zRI_wL hRm16
    have b30 : 0 ≤ m25.1 34 0 30 ∧ m25.1 34 0 30 ≤ 24 := hGm25.1 34 _ rfl _ _
    refine ww_go 6 (pc' := 186) (L' := [(0, .inr (.inr (.inl (some (34, 0))))), (1, .inl q), (2, .inl f), (3, .inl (7 * f + i)), (4, .inl b), (5, .inl (24 * q)), (6, .inl y), (7, .inl u), (8, .inl z)]) (st' := []) (m' := wuI m25 34 0 30 ((m25.1 34 0 30) + 1)) (o := some ((0 < 1) ∧ (0 < 1))) rfl (show (0 < 1) ∧ (0 < 1) from by omega) ?_
    obtain ⟨m31, hm31⟩ : ∃ zq9 : wm, zq9 = wuI m25 34 0 30 ((m25.1 34 0 30) + 1) := ⟨_, rfl⟩
    rw [← hm31]
    have hGm31 : zB c m31 := by rw [hm31]; exact zB_wI rfl (show 0 ≤ (m25.1 34 0 30) + 1 ∧ (m25.1 34 0 30) + 1 ≤ 24 from by omega) hGm25
    have hFm31 : zfr (fun k i j => (k = 58) ∨ (k = 59) ∨ (k = 60) ∨ (k = 61) ∨ (k = 34 ∧ j = 30) ∨ (k = 54) ∨ (k = 55) ∨ (k = 57) ∨ (k = 56) ∨ (k = 51) ∨ (k = 52) ∨ (k = 53) ∨ (k = 71) ∨ (k = 72) ∨ (k = 34 ∧ j = 48) ∨ (k = 34 ∧ j = 47) ∨ (k = 34 ∧ j = 35)) m0 m31 := by rw [hm31]; exact zfr_wI hFm25 (show (34 = 58) ∨ (34 = 59) ∨ (34 = 60) ∨ (34 = 61) ∨ (34 = 34 ∧ 30 = 30) ∨ (34 = 54) ∨ (34 = 55) ∨ (34 = 57) ∨ (34 = 56) ∨ (34 = 51) ∨ (34 = 52) ∨ (34 = 53) ∨ (34 = 71) ∨ (34 = 72) ∨ (34 = 34 ∧ 30 = 48) ∨ (34 = 34 ∧ 30 = 47) ∨ (34 = 34 ∧ 30 = 35) from Or.inr (Or.inr (Or.inr (Or.inr (Or.inl (⟨rfl, rfl⟩))))))
    have s32 : m31.1 34 0 30 = (m25.1 34 0 30) + 1 := by rw [hm31]; exact wuI_self
    have w33 : m31.1 54 0 ((7 * f + i).toNat) = m25.1 54 0 ((7 * f + i).toNat) := by rw [hm31]; rfl
    have w34 : m31.1 55 0 ((2 * (7 * f + i) + b).toNat) = m25.1 55 0 ((2 * (7 * f + i) + b).toNat) := by rw [hm31]; rfl
    have w35 : m31.1 51 0 f.toNat = m25.1 51 0 f.toNat := by rw [hm31]; rfl
    have hRm31 : zRI m31 := by rw [hm31]; exact zRI_wo (by decide) hRm25
    refine ww_go 5 (pc' := 194) (L' := [(0, .inr (.inr (.inl (some (34, 0))))), (1, .inl q), (2, .inl f), (3, .inl (7 * f + i)), (4, .inl b), (5, .inl (24 * q)), (6, .inl y), (7, .inl u), (8, .inl z)]) (st' := []) (m' := wuI m31 54 0 ((7 * f + i).toNat) y) (o := some ((0 < 1) ∧ (0 < 1 ∧ 0 ≤ 7 * f + i ∧ 7 * f + i < ((56 : Nat) : Int)))) rfl (show (0 < 1) ∧ (0 < 1 ∧ 0 ≤ 7 * f + i ∧ 7 * f + i < ((56 : Nat) : Int)) from by omega) ?_
    obtain ⟨m36, hm36⟩ : ∃ zq9 : wm, zq9 = wuI m31 54 0 ((7 * f + i).toNat) y := ⟨_, rfl⟩
    rw [← hm36]
    have hGm36 : zB c m36 := by rw [hm36]; exact zB_wI rfl (show (-1) ≤ y ∧ y ≤ 104 from by omega) hGm31
    have hFm36 : zfr (fun k i j => (k = 58) ∨ (k = 59) ∨ (k = 60) ∨ (k = 61) ∨ (k = 34 ∧ j = 30) ∨ (k = 54) ∨ (k = 55) ∨ (k = 57) ∨ (k = 56) ∨ (k = 51) ∨ (k = 52) ∨ (k = 53) ∨ (k = 71) ∨ (k = 72) ∨ (k = 34 ∧ j = 48) ∨ (k = 34 ∧ j = 47) ∨ (k = 34 ∧ j = 35)) m0 m36 := by rw [hm36]; exact zfr_wI hFm31 (show (54 = 58) ∨ (54 = 59) ∨ (54 = 60) ∨ (54 = 61) ∨ (54 = 34 ∧ ((7 * f + i).toNat) = 30) ∨ (54 = 54) ∨ (54 = 55) ∨ (54 = 57) ∨ (54 = 56) ∨ (54 = 51) ∨ (54 = 52) ∨ (54 = 53) ∨ (54 = 71) ∨ (54 = 72) ∨ (54 = 34 ∧ ((7 * f + i).toNat) = 48) ∨ (54 = 34 ∧ ((7 * f + i).toNat) = 47) ∨ (54 = 34 ∧ ((7 * f + i).toNat) = 35) from Or.inr (Or.inr (Or.inr (Or.inr (Or.inr (Or.inl rfl))))))
    have s37 : m36.1 54 0 ((7 * f + i).toNat) = y := by rw [hm36]; exact wuI_self
    have w38 : m36.1 55 0 ((2 * (7 * f + i) + b).toNat) = m31.1 55 0 ((2 * (7 * f + i) + b).toNat) := by rw [hm36]; rfl
    have w39 : m36.1 51 0 f.toNat = m31.1 51 0 f.toNat := by rw [hm36]; rfl
    have w40 : m36.1 34 0 30 = m31.1 34 0 30 := by rw [hm36]; rfl
    have hRm36 : zRI m36 := by rw [hm36]; exact zRI_sz (f := f) (i := i) hRm31 (zB_ct hGm31) (by omega) (by omega)
    have hng := zRI_ng (f := f) (i := i) (b := b) hRm36 (by omega) (by omega) (by omega)
    have zev9 : r23 = zTv m0 q := (show r23 = zTv m16 q from hr24).trans (zTv_fr hFm16 (fun j => (show ¬ ((47 = 58) ∨ (47 = 59) ∨ (47 = 60) ∨ (47 = 61) ∨ (47 = 34 ∧ j = 30) ∨ (47 = 54) ∨ (47 = 55) ∨ (47 = 57) ∨ (47 = 56) ∨ (47 = 51) ∨ (47 = 52) ∨ (47 = 53) ∨ (47 = 71) ∨ (47 = 72) ∨ (47 = 34 ∧ j = 48) ∨ (47 = 34 ∧ j = 47) ∨ (47 = 34 ∧ j = 35)) from by omega)))
    have zra9 : zRa m m36 (7 * f + i) b z r23 y := zRa_w (by omega) (by omega) hm2 hm9 hm16 hm25 hm31 hm36
    have zrb9 := zRb_a hb9 zra9 ⟨by omega, by omega⟩
    rw [hu.2.1, zev9, hu.2.2] at zra9
    refine ww_sub (L := [(0, .inr (.inr (.inl (some (34, 0))))), (2, .inl f), (3, .inl (7 * f + i)), (4, .inl b), (7, .inl u)]) ⟨rfl, rfl, rfl, rfl, rfl, trivial⟩ rfl rfl ?_
    exact (yt248_l194 hc q f b i hG hR h0 hs hb _) u m36 rfl (zB_mono hGm36 (by omega)) hFm36 hRm36 (by omega) (by exact hng) (by exact ⟨m, hT1, zra9⟩) (by exact hu.1) (by exact zrb9)
set_option maxRecDepth 8000 in
theorem yt248_l58 {sc : xSc} {n : Nat × Nat} {m0 : wm} {c : Int} (hc : 0 ≤ c ∧ c ≤ 990000) (q : Int) (f : Int) (b : Int) (i : Int) (hG : zB c m0) (hR : zRI m0) (h0 : 0 ≤ q ∧ q ≤ 31 ∧ 0 ≤ f ∧ f ≤ 7 ∧ 0 ≤ i ∧ i ≤ 6 ∧ 0 ≤ b ∧ b ≤ 1) (hs : m0.1 47 0 ((24 * q + 7).toNat) ≤ 104 ∧ (b = 0 ∨ 64 < m0.1 47 0 ((24 * q + 7).toNat))) (hb : zRb m0) : ∀ (d : Nat), ∀ (y : Int), 0 = d → (0 ≤ y ∧ y ≤ 104 ∧ (b = 0 ∨ 64 < y) ∧ (m0.1 54 0 ((7 * f + i).toNat) = y ∨ m0.1 54 0 ((7 * f + i).toNat) < 0) ∧ m0.1 55 0 (2 * (7 * f + i) + b).toNat = 0) → (y = zsl m0 q 7) → (¬ zTo m0 q f i b) →  wW (zK sc) zM248 58 [(0, .inr (.inr (.inl (some (34, 0))))), (1, .inl q), (2, .inl f), (3, .inl (7 * f + i)), (4, .inl b), (5, .inl (24 * q)), (6, .inl y)] [] n m0 (wr (fun vv n1 m1 => ∃ r : Int, vv = some (.inl r) ∧ n = n1 ∧ zB (c + 4) m1 ∧ zfr (fun k i j => (k = 58) ∨ (k = 59) ∨ (k = 60) ∨ (k = 61) ∨ (k = 34 ∧ j = 30) ∨ (k = 54) ∨ (k = 55) ∨ (k = 57) ∨ (k = 56) ∨ (k = 51) ∨ (k = 52) ∨ (k = 53) ∨ (k = 71) ∨ (k = 72) ∨ (k = 34 ∧ j = 48) ∨ (k = 34 ∧ j = 47) ∨ (k = 34 ∧ j = 35)) m0 m1 ∧ (zRI m1 ∧ ((0 ≤ r ∧ r ≤ 6) ∧ zTkR m0 m1 q f i b r)))) := by
  intro d
  induction d using Nat.strongRecOn with
  | ind d ih =>
    intro y hd hi hy7 hO
    have zq7 : zsl m0 q 7 = m0.1 47 0 ((24 * q + 7).toNat) := rfl
    have hF : zfr (fun k i j => (k = 58) ∨ (k = 59) ∨ (k = 60) ∨ (k = 61) ∨ (k = 34 ∧ j = 30) ∨ (k = 54) ∨ (k = 55) ∨ (k = 57) ∨ (k = 56) ∨ (k = 51) ∨ (k = 52) ∨ (k = 53) ∨ (k = 71) ∨ (k = 72) ∨ (k = 34 ∧ j = 48) ∨ (k = 34 ∧ j = 47) ∨ (k = 34 ∧ j = 35)) m0 m0 := zfr_rf
    refine ww_go 2 (pc' := 62) (L' := [(0, .inr (.inr (.inl (some (34, 0))))), (1, .inl q), (2, .inl f), (3, .inl (7 * f + i)), (4, .inl b), (5, .inl (24 * q)), (6, .inl y)]) (st' := [.inl b, .inl y]) (m' := m0) (o := none) rfl trivial ?_
    refine ww_call (vs := [.inl y, .inl b]) (r := []) (p := True) rfl rfl rfl rfl trivial (zs229 y b (by omega)) ?_
    rintro _ _ _ ⟨r1, rfl, rfl, rfl, hr2⟩
    show wW (zK sc) zM248 65 [(0, .inr (.inr (.inl (some (34, 0))))), (1, .inl q), (2, .inl f), (3, .inl (7 * f + i)), (4, .inl b), (5, .inl (24 * q)), (6, .inl y)] [.inl r1] _ _ _
    have b3 : 0 ≤ m0.1 50 0 f.toNat ∧ m0.1 50 0 f.toNat ≤ 65535 := hG.1 50 _ rfl _ _
    have t4 : (0 ≤ (7 * f + i) → (7 * f + i).tmod 7 = (7 * f + i) % 7) ∧ ((7 * f + i) < 0 → (7 * f + i).tmod 7 = -((-((7 * f + i))) % 7)) := ⟨fun z => Int.tmod_eq_emod_of_nonneg z, fun z => wtmod_neg z⟩
    have b5 : 0 ≤ m0.1 47 0 (((24 * q) + 6).toNat) ∧ m0.1 47 0 (((24 * q) + 6).toNat) ≤ 255 := hG.1 47 _ rfl _ _
    refine ww_go 16 (pc' := 91) (L' := [(7, .inl r1), (0, .inr (.inr (.inl (some (34, 0))))), (1, .inl q), (2, .inl f), (3, .inl (7 * f + i)), (4, .inl b), (5, .inl (24 * q)), (6, .inl y)]) (st' := [.inl r1, .inl (m0.1 47 0 (((24 * q) + 6).toNat)), .inl b, .inl ((7 * f + i).tmod 7), .inl (m0.1 50 0 f.toNat)]) (m' := m0) (o := some ((0 < 1) ∧ (0 < 1 ∧ 0 ≤ f ∧ f < ((8 : Nat) : Int)) ∧ (-2147483648 ≤ 7 * f + i ∧ 7 * f + i ≤ 2147483647 ∧ 0 < (7 : Int) ∧ (7 : Int) ≤ 2147483647) ∧ (0 < 1) ∧ (0 < 1 ∧ 0 ≤ (24 * q) + 6 ∧ (24 * q) + 6 < ((768 : Nat) : Int)))) rfl (show (0 < 1) ∧ (0 < 1 ∧ 0 ≤ f ∧ f < ((8 : Nat) : Int)) ∧ (-2147483648 ≤ 7 * f + i ∧ 7 * f + i ≤ 2147483647 ∧ 0 < (7 : Int) ∧ (7 : Int) ≤ 2147483647) ∧ (0 < 1) ∧ (0 < 1 ∧ 0 ≤ (24 * q) + 6 ∧ (24 * q) + 6 < ((768 : Nat) : Int)) from by omega) ?_
    refine ww_call (vs := [.inl (m0.1 50 0 f.toNat), .inl ((7 * f + i).tmod 7), .inl b, .inl (m0.1 47 0 (((24 * q) + 6).toNat)), .inl r1]) (r := []) (p := True) rfl rfl rfl rfl trivial (zs222 (m0.1 50 0 f.toNat) ((7 * f + i).tmod 7) b (m0.1 47 0 (((24 * q) + 6).toNat)) r1 (by omega)) ?_
    rintro _ _ _ ⟨r6, rfl, rfl, rfl, hr7⟩
    have zmr9 := zmk_rg (v := m0.1 50 0 f.toNat) (i := (7 * f + i).tmod 7) (b := b) (j := m0.1 47 0 (((24 * q) + 6).toNat)) (n := r1) (by omega) (by omega)
    have zmp9 : 2 ^ (r1).toNat ≤ 2 ^ 8 := Nat.pow_le_pow_right (by decide) (by omega)
    have zun9 : r1 = zTn m0 q b := by have z9 := hr2.2.2.2 (by omega); unfold zTn zpc; unfold zpb at z9; rw [← hy7]; omega
    have zme9 : r6 = zTM m0 q f i b := by have z9 := hr7.2; rw [show ((7 * f + i).tmod 7) = i from by omega, zun9] at z9; exact z9
    have zmb9 : 1 ≤ r6 ∧ r6 ≤ 255 := by rw [hr7.2]; omega
    show wW (zK sc) zM248 94 [(7, .inl r1), (0, .inr (.inr (.inl (some (34, 0))))), (1, .inl q), (2, .inl f), (3, .inl (7 * f + i)), (4, .inl b), (5, .inl (24 * q)), (6, .inl y)] [.inl r6] _ _ _
    refine ww_go 5 (pc' := 102) (L' := [(8, .inl r6), (7, .inl r1), (0, .inr (.inr (.inl (some (34, 0))))), (1, .inl q), (2, .inl f), (3, .inl (7 * f + i)), (4, .inl b), (5, .inl (24 * q)), (6, .inl y)]) (st' := [.inl r6, .inl b, .inl (7 * f + i), .inr (.inr (.inl (some (34, 0))))]) (m' := m0) (o := none) rfl trivial ?_
    refine ww_call (vs := [.inr (.inr (.inl (some (34, 0)))), .inl (7 * f + i), .inl b, .inl r6]) (r := []) (p := 0 < 1) rfl rfl rfl rfl (show 0 < 1 from by omega) (yt247 (c := c) (by omega) (7 * f + i) b r6 hG (by omega) hb) ?_
    rintro _ _ _ ⟨r8, rfl, rfl, rfl, hr9⟩
    show wW (zK sc) zM248 105 [(8, .inl r6), (7, .inl r1), (0, .inr (.inr (.inl (some (34, 0))))), (1, .inl q), (2, .inl f), (3, .inl (7 * f + i)), (4, .inl b), (5, .inl (24 * q)), (6, .inl y)] [.inl r8] _ _ _
    refine ww_if (t := 114) rfl rfl (by omega) (fun (h10 : r8 < 0) => ?_) (fun (h10 : ¬ (r8 < 0)) => ?_)
    · show wW (zK sc) zM248 114 [(8, .inl r6), (7, .inl r1), (0, .inr (.inr (.inl (some (34, 0))))), (1, .inl q), (2, .inl f), (3, .inl (7 * f + i)), (4, .inl b), (5, .inl (24 * q)), (6, .inl y)] [] _ _ _
      refine ww_go 1 (pc' := 115) (L' := [(8, .inl r6), (7, .inl r1), (0, .inr (.inr (.inl (some (34, 0))))), (1, .inl q), (2, .inl f), (3, .inl (7 * f + i)), (4, .inl b), (5, .inl (24 * q)), (6, .inl y)]) (st' := [.inr (.inr (.inl (some (34, 0))))]) (m' := m0) (o := none) rfl trivial ?_
      refine ww_call (vs := [.inr (.inr (.inl (some (34, 0))))]) (r := []) (p := 0 < 1) rfl rfl rfl rfl (show 0 < 1 from by omega) (yt239 (c := c) (by omega) hG hR) ?_
      rintro _ _ m13 ⟨r11, rfl, rfl, hGm13, hEm13, hRm13, hr12⟩
      have hFm13 : zfr (fun k i j => (k = 58) ∨ (k = 59) ∨ (k = 60) ∨ (k = 61) ∨ (k = 34 ∧ j = 30) ∨ (k = 54) ∨ (k = 55) ∨ (k = 57) ∨ (k = 56) ∨ (k = 51) ∨ (k = 52) ∨ (k = 53) ∨ (k = 71) ∨ (k = 72) ∨ (k = 34 ∧ j = 48) ∨ (k = 34 ∧ j = 47) ∨ (k = 34 ∧ j = 35)) m0 m13 := zfr_tr hF hEm13 (fun k i j z => Or.elim z (fun z => Or.inl z) (fun z => Or.elim z (fun z => Or.inr (Or.inl z)) (fun z => Or.elim z (fun z => Or.inr (Or.inr (Or.inl z))) (fun z => Or.elim z (fun z => Or.inr (Or.inr (Or.inr (Or.inl z)))) (fun z => Or.elim z (fun z => Or.inr (Or.inr (Or.inr (Or.inr (Or.inl z))))) (fun z => Or.inr (Or.inr (Or.inr (Or.inr (Or.inr (Or.inl z)))))))))))
      have w14 : m13.1 55 0 ((2 * (7 * f + i) + b).toNat) = m0.1 55 0 ((2 * (7 * f + i) + b).toNat) := (hEm13 55 0 ((2 * (7 * f + i) + b).toNat) (show ¬ ((55 = 58) ∨ (55 = 59) ∨ (55 = 60) ∨ (55 = 61) ∨ (55 = 34 ∧ ((2 * (7 * f + i) + b).toNat) = 30) ∨ (55 = 54)) from by omega)).1
      have w15 : m13.1 51 0 f.toNat = m0.1 51 0 f.toNat := (hEm13 51 0 f.toNat (show ¬ ((51 = 58) ∨ (51 = 59) ∨ (51 = 60) ∨ (51 = 61) ∨ (51 = 34 ∧ f.toNat = 30) ∨ (51 = 54)) from by omega)).1
      show wW (zK sc) zM248 118 [(8, .inl r6), (7, .inl r1), (0, .inr (.inr (.inl (some (34, 0))))), (1, .inl q), (2, .inl f), (3, .inl (7 * f + i)), (4, .inl b), (5, .inl (24 * q)), (6, .inl y)] [.inl r11] _ _ _
      have zu9 := (hr12).1.2.2 (7 * f + i) (by omega)
      have zr9 := (hr12).1.2.1
      have zr8 := (hr12).1.1
      refine ww_if (t := 128) rfl rfl (by omega) (fun (h16 : r11 ≠ 0) => ?_) (fun (h16 : ¬ (r11 ≠ 0)) => ?_)
      · show wW (zK sc) zM248 128 [(8, .inl r6), (7, .inl r1), (0, .inr (.inr (.inl (some (34, 0))))), (1, .inl q), (2, .inl f), (3, .inl (7 * f + i)), (4, .inl b), (5, .inl (24 * q)), (6, .inl y)] [] _ _ _
        refine ww_sub (L := [(0, .inr (.inr (.inl (some (34, 0))))), (1, .inl q), (2, .inl f), (3, .inl (7 * f + i)), (4, .inl b), (5, .inl (24 * q)), (6, .inl y), (7, .inl r1), (8, .inl r6)]) ⟨rfl, rfl, rfl, rfl, rfl, rfl, rfl, rfl, rfl, trivial⟩ rfl rfl ?_
        exact (yt248_l128 hc q f b i hG hR h0 hs hb _) y r1 r6 m13 rfl (zB_mono hGm13 (by omega)) hFm13 hRm13 (by omega) (by exact ⟨hO, (by have z9 := zsum_n hr9 (by omega); rw [zme9] at z9; exact z9), (by have z9 := hr12.2; rw [show r11 = 1 from by omega] at z9; exact z9)⟩) (by exact ⟨zun9, zme9, hy7⟩) (by exact zRb_rm hb hr12.2)
      · show wW (zK sc) zM248 121 [(8, .inl r6), (7, .inl r1), (0, .inr (.inr (.inl (some (34, 0))))), (1, .inl q), (2, .inl f), (3, .inl (7 * f + i)), (4, .inl b), (5, .inl (24 * q)), (6, .inl y)] [] _ _ _
        refine ww_go 2 (pc' := 124) (L' := [(8, .inl r6), (7, .inl r1), (0, .inr (.inr (.inl (some (34, 0))))), (1, .inl q), (2, .inl f), (3, .inl (7 * f + i)), (4, .inl b), (5, .inl (24 * q)), (6, .inl y)]) (st' := [.inl 6, .inr (.inr (.inl (some (34, 0))))]) (m' := m13) (o := none) rfl trivial ?_
        refine ww_call (vs := [.inr (.inr (.inl (some (34, 0)))), .inl 6]) (r := []) (p := 0 < 1) rfl rfl rfl rfl (show 0 < 1 from by omega) (yt193 (c := c) (by omega) 6 hGm13 (by omega)) ?_
        rintro _ _ m19 ⟨r17, rfl, rfl, hGm19, hEm19, hr18⟩
        have hFm19 : zfr (fun k i j => (k = 58) ∨ (k = 59) ∨ (k = 60) ∨ (k = 61) ∨ (k = 34 ∧ j = 30) ∨ (k = 54) ∨ (k = 55) ∨ (k = 57) ∨ (k = 56) ∨ (k = 51) ∨ (k = 52) ∨ (k = 53) ∨ (k = 71) ∨ (k = 72) ∨ (k = 34 ∧ j = 48) ∨ (k = 34 ∧ j = 47) ∨ (k = 34 ∧ j = 35)) m0 m19 := zfr_tr hFm13 hEm19 (fun k i j z => Or.inr (Or.inr (Or.inr (Or.inr (Or.inr (Or.inr (Or.inr (Or.inr (Or.inr (Or.inr (Or.inr (Or.inr (Or.inr (Or.inr (Or.inr (Or.inr (z)))))))))))))))))
        have w20 : m19.1 54 0 ((7 * f + i).toNat) = m13.1 54 0 ((7 * f + i).toNat) := (hEm19 54 0 ((7 * f + i).toNat) (show ¬ ((54 = 34 ∧ ((7 * f + i).toNat) = 35)) from by omega)).1
        have w21 : m19.1 55 0 ((2 * (7 * f + i) + b).toNat) = m13.1 55 0 ((2 * (7 * f + i) + b).toNat) := (hEm19 55 0 ((2 * (7 * f + i) + b).toNat) (show ¬ ((55 = 34 ∧ ((2 * (7 * f + i) + b).toNat) = 35)) from by omega)).1
        have w22 : m19.1 51 0 f.toNat = m13.1 51 0 f.toNat := (hEm19 51 0 f.toNat (show ¬ ((51 = 34 ∧ f.toNat = 35)) from by omega)).1
        have w23 : m19.1 34 0 30 = m13.1 34 0 30 := (hEm19 34 0 30 (show ¬ ((34 = 34 ∧ 30 = 35)) from by omega)).1
        have hRm19 : zRI m19 := zRI_fr hRm13 hEm19 (fun k j hk => (show ¬ ((k = 34 ∧ j = 35)) from by omega))
        show wW (zK sc) zM248 127 [(8, .inl r6), (7, .inl r1), (0, .inr (.inr (.inl (some (34, 0))))), (1, .inl q), (2, .inl f), (3, .inl (7 * f + i)), (4, .inl b), (5, .inl (24 * q)), (6, .inl y)] [.inl r17] _ _ _
        exact ww_rI rfl rfl ⟨_, rfl, rfl, zB_mono hGm19 (by omega), hFm19, ⟨hRm19, ⟨by omega, Or.inr (Or.inr (Or.inl ⟨hr18.1, hO, (by have z9 := zsum_n hr9 (by omega); rw [zme9] at z9; exact z9), m13, (by have z9 := hr12.2; rw [show r11 = 0 from by omega] at z9; exact z9), hr18.2⟩))⟩⟩⟩
    · show wW (zK sc) zM248 108 [(8, .inl r6), (7, .inl r1), (0, .inr (.inr (.inl (some (34, 0))))), (1, .inl q), (2, .inl f), (3, .inl (7 * f + i)), (4, .inl b), (5, .inl (24 * q)), (6, .inl y)] [] _ _ _
      refine ww_go 2 (pc' := 110) (L' := [(8, .inl r6), (7, .inl r1), (0, .inr (.inr (.inl (some (34, 0))))), (1, .inl q), (2, .inl f), (3, .inl (7 * f + i)), (4, .inl b), (5, .inl (24 * q)), (6, .inl y)]) (st' := [.inl 5, .inr (.inr (.inl (some (34, 0))))]) (m' := m0) (o := none) rfl trivial ?_
      refine ww_call (vs := [.inr (.inr (.inl (some (34, 0)))), .inl 5]) (r := []) (p := 0 < 1) rfl rfl rfl rfl (show 0 < 1 from by omega) (yt193 (c := c) (by omega) 5 hG (by omega)) ?_
      rintro _ _ m26 ⟨r24, rfl, rfl, hGm26, hEm26, hr25⟩
      have hFm26 : zfr (fun k i j => (k = 58) ∨ (k = 59) ∨ (k = 60) ∨ (k = 61) ∨ (k = 34 ∧ j = 30) ∨ (k = 54) ∨ (k = 55) ∨ (k = 57) ∨ (k = 56) ∨ (k = 51) ∨ (k = 52) ∨ (k = 53) ∨ (k = 71) ∨ (k = 72) ∨ (k = 34 ∧ j = 48) ∨ (k = 34 ∧ j = 47) ∨ (k = 34 ∧ j = 35)) m0 m26 := zfr_tr hF hEm26 (fun k i j z => Or.inr (Or.inr (Or.inr (Or.inr (Or.inr (Or.inr (Or.inr (Or.inr (Or.inr (Or.inr (Or.inr (Or.inr (Or.inr (Or.inr (Or.inr (Or.inr (z)))))))))))))))))
      have w27 : m26.1 54 0 ((7 * f + i).toNat) = m0.1 54 0 ((7 * f + i).toNat) := (hEm26 54 0 ((7 * f + i).toNat) (show ¬ ((54 = 34 ∧ ((7 * f + i).toNat) = 35)) from by omega)).1
      have w28 : m26.1 55 0 ((2 * (7 * f + i) + b).toNat) = m0.1 55 0 ((2 * (7 * f + i) + b).toNat) := (hEm26 55 0 ((2 * (7 * f + i) + b).toNat) (show ¬ ((55 = 34 ∧ ((2 * (7 * f + i) + b).toNat) = 35)) from by omega)).1
      have w29 : m26.1 51 0 f.toNat = m0.1 51 0 f.toNat := (hEm26 51 0 f.toNat (show ¬ ((51 = 34 ∧ f.toNat = 35)) from by omega)).1
      have w30 : m26.1 34 0 30 = m0.1 34 0 30 := (hEm26 34 0 30 (show ¬ ((34 = 34 ∧ 30 = 35)) from by omega)).1
      have hRm26 : zRI m26 := zRI_fr hR hEm26 (fun k j hk => (show ¬ ((k = 34 ∧ j = 35)) from by omega))
      show wW (zK sc) zM248 113 [(8, .inl r6), (7, .inl r1), (0, .inr (.inr (.inl (some (34, 0))))), (1, .inl q), (2, .inl f), (3, .inl (7 * f + i)), (4, .inl b), (5, .inl (24 * q)), (6, .inl y)] [.inl r24] _ _ _
      exact ww_rI rfl rfl ⟨_, rfl, rfl, zB_mono hGm26 (by omega), hFm26, ⟨hRm26, ⟨by omega, Or.inr (Or.inl ⟨hr25.1, hO, (by have z9 := zsum_y hr9 (by omega); rw [zme9] at z9; exact z9), hr25.2⟩)⟩⟩⟩
set_option maxRecDepth 8000 in
/-- Mo.takes -/
theorem yt248 {sc : xSc} {n : Nat × Nat} {m0 : wm} {c : Int} (hc : 0 ≤ c ∧ c ≤ 990000) (q : Int) (f : Int) (b : Int) (i : Int) (hG : zB c m0) (hR : zRI m0) (h0 : 0 ≤ q ∧ q ≤ 31 ∧ 0 ≤ f ∧ f ≤ 7 ∧ 0 ≤ i ∧ i ≤ 6 ∧ 0 ≤ b ∧ b ≤ 1) (hs : m0.1 47 0 ((24 * q + 7).toNat) ≤ 104 ∧ (b = 0 ∨ 64 < m0.1 47 0 ((24 * q + 7).toNat))) (hb : zRb m0) : wX (zK sc) 248 [.inr (.inr (.inl (some (34, 0)))), .inl q, .inl f, .inl (7 * f + i), .inl b] n m0 (wr (fun vv n1 m1 => ∃ r : Int, vv = some (.inl r) ∧ n = n1 ∧ zB (c + 4) m1 ∧ zfr (fun k i j => (k = 58) ∨ (k = 59) ∨ (k = 60) ∨ (k = 61) ∨ (k = 34 ∧ j = 30) ∨ (k = 54) ∨ (k = 55) ∨ (k = 57) ∨ (k = 56) ∨ (k = 51) ∨ (k = 52) ∨ (k = 53) ∨ (k = 71) ∨ (k = 72) ∨ (k = 34 ∧ j = 48) ∨ (k = 34 ∧ j = 47) ∨ (k = 34 ∧ j = 35)) m0 m1 ∧ (zRI m1 ∧ ((0 ≤ r ∧ r ≤ 6) ∧ zTkR m0 m1 q f i b r)))) := by
  refine wX_of (N := zM248) rfl (Nat.le_of_ble_eq_true rfl) ?_
  show wW (zK sc) zM248 0 [(0, .inr (.inr (.inl (some (34, 0))))), (1, .inl q), (2, .inl f), (3, .inl (7 * f + i)), (4, .inl b)] [] n m0 _
  have hF : zfr (fun k i j => (k = 58) ∨ (k = 59) ∨ (k = 60) ∨ (k = 61) ∨ (k = 34 ∧ j = 30) ∨ (k = 54) ∨ (k = 55) ∨ (k = 57) ∨ (k = 56) ∨ (k = 51) ∨ (k = 52) ∨ (k = 53) ∨ (k = 71) ∨ (k = 72) ∨ (k = 34 ∧ j = 48) ∨ (k = 34 ∧ j = 47) ∨ (k = 34 ∧ j = 35)) m0 m0 := zfr_rf
  have zq7 : zsl m0 q 7 = m0.1 47 0 ((24 * q + 7).toNat) := rfl
  have b1 : 0 ≤ m0.1 47 0 (((24 * q) + 7).toNat) ∧ m0.1 47 0 (((24 * q) + 7).toNat) ≤ 255 := hG.1 47 _ rfl _ _
  have b2 : (-1) ≤ m0.1 54 0 ((7 * f + i).toNat) ∧ m0.1 54 0 ((7 * f + i).toNat) ≤ 104 := hG.1 54 _ rfl _ _
  refine ww_go 15 (pc' := 24) (L' := [(6, .inl (m0.1 47 0 (((24 * q) + 7).toNat))), (5, .inl (24 * q)), (0, .inr (.inr (.inl (some (34, 0))))), (1, .inl q), (2, .inl f), (3, .inl (7 * f + i)), (4, .inl b)]) (st' := [.inl (m0.1 54 0 ((7 * f + i).toNat))]) (m' := m0) (o := some ((0 < 1) ∧ (0 < 1 ∧ 0 ≤ (24 * q) + 7 ∧ (24 * q) + 7 < ((768 : Nat) : Int)) ∧ (0 < 1) ∧ (0 < 1 ∧ 0 ≤ 7 * f + i ∧ 7 * f + i < ((56 : Nat) : Int)))) rfl (show (0 < 1) ∧ (0 < 1 ∧ 0 ≤ (24 * q) + 7 ∧ (24 * q) + 7 < ((768 : Nat) : Int)) ∧ (0 < 1) ∧ (0 < 1 ∧ 0 ≤ 7 * f + i ∧ 7 * f + i < ((56 : Nat) : Int)) from by omega) ?_
  refine ww_if (t := 38) rfl rfl (by omega) (fun (h3 : m0.1 54 0 ((7 * f + i).toNat) < 0) => ?_) (fun (h3 : ¬ (m0.1 54 0 ((7 * f + i).toNat) < 0)) => ?_)
  · show wW (zK sc) zM248 38 [(6, .inl (m0.1 47 0 (((24 * q) + 7).toNat))), (5, .inl (24 * q)), (0, .inr (.inr (.inl (some (34, 0))))), (1, .inl q), (2, .inl f), (3, .inl (7 * f + i)), (4, .inl b)] [] _ _ _
    have b4 : 0 ≤ m0.1 55 0 (((2 * (7 * f + i)) + b).toNat) ∧ m0.1 55 0 (((2 * (7 * f + i)) + b).toNat) ≤ 1 := hG.1 55 _ rfl _ _
    refine ww_go 8 (pc' := 49) (L' := [(6, .inl (m0.1 47 0 (((24 * q) + 7).toNat))), (5, .inl (24 * q)), (0, .inr (.inr (.inl (some (34, 0))))), (1, .inl q), (2, .inl f), (3, .inl (7 * f + i)), (4, .inl b)]) (st' := [.inl (m0.1 55 0 (((2 * (7 * f + i)) + b).toNat))]) (m' := m0) (o := some ((0 < 1) ∧ (0 < 1 ∧ 0 ≤ (2 * (7 * f + i)) + b ∧ (2 * (7 * f + i)) + b < ((112 : Nat) : Int)))) rfl (show (0 < 1) ∧ (0 < 1 ∧ 0 ≤ (2 * (7 * f + i)) + b ∧ (2 * (7 * f + i)) + b < ((112 : Nat) : Int)) from by omega) ?_
    refine ww_if (t := 58) rfl rfl (by omega) (fun (h5 : m0.1 55 0 (((2 * (7 * f + i)) + b).toNat) = 0) => ?_) (fun (h5 : ¬ (m0.1 55 0 (((2 * (7 * f + i)) + b).toNat) = 0)) => ?_)
    · show wW (zK sc) zM248 58 [(6, .inl (m0.1 47 0 (((24 * q) + 7).toNat))), (5, .inl (24 * q)), (0, .inr (.inr (.inl (some (34, 0))))), (1, .inl q), (2, .inl f), (3, .inl (7 * f + i)), (4, .inl b)] [] _ _ _
      refine ww_sub (L := [(0, .inr (.inr (.inl (some (34, 0))))), (1, .inl q), (2, .inl f), (3, .inl (7 * f + i)), (4, .inl b), (5, .inl (24 * q)), (6, .inl (m0.1 47 0 (((24 * q) + 7).toNat)))]) ⟨rfl, rfl, rfl, rfl, rfl, rfl, rfl, trivial⟩ rfl rfl ?_
      exact (yt248_l58 hc q f b i hG hR h0 hs hb _) (m0.1 47 0 (((24 * q) + 7).toNat)) rfl (by omega) (by omega) (by exact fun z => z.elim (fun z => by omega) (fun z => by omega))
    · show wW (zK sc) zM248 52 [(6, .inl (m0.1 47 0 (((24 * q) + 7).toNat))), (5, .inl (24 * q)), (0, .inr (.inr (.inl (some (34, 0))))), (1, .inl q), (2, .inl f), (3, .inl (7 * f + i)), (4, .inl b)] [] _ _ _
      refine ww_go 2 (pc' := 54) (L' := [(6, .inl (m0.1 47 0 (((24 * q) + 7).toNat))), (5, .inl (24 * q)), (0, .inr (.inr (.inl (some (34, 0))))), (1, .inl q), (2, .inl f), (3, .inl (7 * f + i)), (4, .inl b)]) (st' := [.inl 4, .inr (.inr (.inl (some (34, 0))))]) (m' := m0) (o := none) rfl trivial ?_
      refine ww_call (vs := [.inr (.inr (.inl (some (34, 0)))), .inl 4]) (r := []) (p := 0 < 1) rfl rfl rfl rfl (show 0 < 1 from by omega) (yt193 (c := c) (by omega) 4 hG (by omega)) ?_
      rintro _ _ m8 ⟨r6, rfl, rfl, hGm8, hEm8, hr7⟩
      have hFm8 : zfr (fun k i j => (k = 58) ∨ (k = 59) ∨ (k = 60) ∨ (k = 61) ∨ (k = 34 ∧ j = 30) ∨ (k = 54) ∨ (k = 55) ∨ (k = 57) ∨ (k = 56) ∨ (k = 51) ∨ (k = 52) ∨ (k = 53) ∨ (k = 71) ∨ (k = 72) ∨ (k = 34 ∧ j = 48) ∨ (k = 34 ∧ j = 47) ∨ (k = 34 ∧ j = 35)) m0 m8 := zfr_tr hF hEm8 (fun k i j z => Or.inr (Or.inr (Or.inr (Or.inr (Or.inr (Or.inr (Or.inr (Or.inr (Or.inr (Or.inr (Or.inr (Or.inr (Or.inr (Or.inr (Or.inr (Or.inr (z)))))))))))))))))
      have w9 : m8.1 54 0 ((7 * f + i).toNat) = m0.1 54 0 ((7 * f + i).toNat) := (hEm8 54 0 ((7 * f + i).toNat) (show ¬ ((54 = 34 ∧ ((7 * f + i).toNat) = 35)) from by omega)).1
      have w10 : m8.1 55 0 ((2 * (7 * f + i) + b).toNat) = m0.1 55 0 ((2 * (7 * f + i) + b).toNat) := (hEm8 55 0 ((2 * (7 * f + i) + b).toNat) (show ¬ ((55 = 34 ∧ ((2 * (7 * f + i) + b).toNat) = 35)) from by omega)).1
      have w11 : m8.1 51 0 f.toNat = m0.1 51 0 f.toNat := (hEm8 51 0 f.toNat (show ¬ ((51 = 34 ∧ f.toNat = 35)) from by omega)).1
      have w12 : m8.1 34 0 30 = m0.1 34 0 30 := (hEm8 34 0 30 (show ¬ ((34 = 34 ∧ 30 = 35)) from by omega)).1
      have hRm8 : zRI m8 := zRI_fr hR hEm8 (fun k j hk => (show ¬ ((k = 34 ∧ j = 35)) from by omega))
      show wW (zK sc) zM248 57 [(6, .inl (m0.1 47 0 (((24 * q) + 7).toNat))), (5, .inl (24 * q)), (0, .inr (.inr (.inl (some (34, 0))))), (1, .inl q), (2, .inl f), (3, .inl (7 * f + i)), (4, .inl b)] [.inl r6] _ _ _
      exact ww_rI rfl rfl ⟨_, rfl, rfl, zB_mono hGm8 (by omega), hFm8, ⟨hRm8, ⟨by omega, Or.inl ⟨hr7.1, (by first | exact Or.inl ⟨by omega, by omega⟩ | exact Or.inr (by omega)), hr7.2⟩⟩⟩⟩
  · show wW (zK sc) zM248 27 [(6, .inl (m0.1 47 0 (((24 * q) + 7).toNat))), (5, .inl (24 * q)), (0, .inr (.inr (.inl (some (34, 0))))), (1, .inl q), (2, .inl f), (3, .inl (7 * f + i)), (4, .inl b)] [] _ _ _
    have b13 : (-1) ≤ m0.1 54 0 ((7 * f + i).toNat) ∧ m0.1 54 0 ((7 * f + i).toNat) ≤ 104 := hG.1 54 _ rfl _ _
    refine ww_go 5 (pc' := 35) (L' := [(6, .inl (m0.1 47 0 (((24 * q) + 7).toNat))), (5, .inl (24 * q)), (0, .inr (.inr (.inl (some (34, 0))))), (1, .inl q), (2, .inl f), (3, .inl (7 * f + i)), (4, .inl b)]) (st' := [.inl (m0.1 47 0 (((24 * q) + 7).toNat)), .inl (m0.1 54 0 ((7 * f + i).toNat))]) (m' := m0) (o := some ((0 < 1) ∧ (0 < 1 ∧ 0 ≤ 7 * f + i ∧ 7 * f + i < ((56 : Nat) : Int)))) rfl (show (0 < 1) ∧ (0 < 1 ∧ 0 ≤ 7 * f + i ∧ 7 * f + i < ((56 : Nat) : Int)) from by omega) ?_
    refine ww_ic (t := 52) rfl rfl (by omega) (fun (h14 : m0.1 54 0 ((7 * f + i).toNat) ≠ m0.1 47 0 (((24 * q) + 7).toNat)) => ?_) (fun (h14 : ¬ (m0.1 54 0 ((7 * f + i).toNat) ≠ m0.1 47 0 (((24 * q) + 7).toNat))) => ?_)
    · show wW (zK sc) zM248 52 [(6, .inl (m0.1 47 0 (((24 * q) + 7).toNat))), (5, .inl (24 * q)), (0, .inr (.inr (.inl (some (34, 0))))), (1, .inl q), (2, .inl f), (3, .inl (7 * f + i)), (4, .inl b)] [] _ _ _
      refine ww_go 2 (pc' := 54) (L' := [(6, .inl (m0.1 47 0 (((24 * q) + 7).toNat))), (5, .inl (24 * q)), (0, .inr (.inr (.inl (some (34, 0))))), (1, .inl q), (2, .inl f), (3, .inl (7 * f + i)), (4, .inl b)]) (st' := [.inl 4, .inr (.inr (.inl (some (34, 0))))]) (m' := m0) (o := none) rfl trivial ?_
      refine ww_call (vs := [.inr (.inr (.inl (some (34, 0)))), .inl 4]) (r := []) (p := 0 < 1) rfl rfl rfl rfl (show 0 < 1 from by omega) (yt193 (c := c) (by omega) 4 hG (by omega)) ?_
      rintro _ _ m17 ⟨r15, rfl, rfl, hGm17, hEm17, hr16⟩
      have hFm17 : zfr (fun k i j => (k = 58) ∨ (k = 59) ∨ (k = 60) ∨ (k = 61) ∨ (k = 34 ∧ j = 30) ∨ (k = 54) ∨ (k = 55) ∨ (k = 57) ∨ (k = 56) ∨ (k = 51) ∨ (k = 52) ∨ (k = 53) ∨ (k = 71) ∨ (k = 72) ∨ (k = 34 ∧ j = 48) ∨ (k = 34 ∧ j = 47) ∨ (k = 34 ∧ j = 35)) m0 m17 := zfr_tr hF hEm17 (fun k i j z => Or.inr (Or.inr (Or.inr (Or.inr (Or.inr (Or.inr (Or.inr (Or.inr (Or.inr (Or.inr (Or.inr (Or.inr (Or.inr (Or.inr (Or.inr (Or.inr (z)))))))))))))))))
      have w18 : m17.1 54 0 ((7 * f + i).toNat) = m0.1 54 0 ((7 * f + i).toNat) := (hEm17 54 0 ((7 * f + i).toNat) (show ¬ ((54 = 34 ∧ ((7 * f + i).toNat) = 35)) from by omega)).1
      have w19 : m17.1 55 0 ((2 * (7 * f + i) + b).toNat) = m0.1 55 0 ((2 * (7 * f + i) + b).toNat) := (hEm17 55 0 ((2 * (7 * f + i) + b).toNat) (show ¬ ((55 = 34 ∧ ((2 * (7 * f + i) + b).toNat) = 35)) from by omega)).1
      have w20 : m17.1 51 0 f.toNat = m0.1 51 0 f.toNat := (hEm17 51 0 f.toNat (show ¬ ((51 = 34 ∧ f.toNat = 35)) from by omega)).1
      have w21 : m17.1 34 0 30 = m0.1 34 0 30 := (hEm17 34 0 30 (show ¬ ((34 = 34 ∧ 30 = 35)) from by omega)).1
      have hRm17 : zRI m17 := zRI_fr hR hEm17 (fun k j hk => (show ¬ ((k = 34 ∧ j = 35)) from by omega))
      show wW (zK sc) zM248 57 [(6, .inl (m0.1 47 0 (((24 * q) + 7).toNat))), (5, .inl (24 * q)), (0, .inr (.inr (.inl (some (34, 0))))), (1, .inl q), (2, .inl f), (3, .inl (7 * f + i)), (4, .inl b)] [.inl r15] _ _ _
      exact ww_rI rfl rfl ⟨_, rfl, rfl, zB_mono hGm17 (by omega), hFm17, ⟨hRm17, ⟨by omega, Or.inl ⟨hr16.1, (by first | exact Or.inl ⟨by omega, by omega⟩ | exact Or.inr (by omega)), hr16.2⟩⟩⟩⟩
    · show wW (zK sc) zM248 38 [(6, .inl (m0.1 47 0 (((24 * q) + 7).toNat))), (5, .inl (24 * q)), (0, .inr (.inr (.inl (some (34, 0))))), (1, .inl q), (2, .inl f), (3, .inl (7 * f + i)), (4, .inl b)] [] _ _ _
      have b22 : 0 ≤ m0.1 55 0 (((2 * (7 * f + i)) + b).toNat) ∧ m0.1 55 0 (((2 * (7 * f + i)) + b).toNat) ≤ 1 := hG.1 55 _ rfl _ _
      refine ww_go 8 (pc' := 49) (L' := [(6, .inl (m0.1 47 0 (((24 * q) + 7).toNat))), (5, .inl (24 * q)), (0, .inr (.inr (.inl (some (34, 0))))), (1, .inl q), (2, .inl f), (3, .inl (7 * f + i)), (4, .inl b)]) (st' := [.inl (m0.1 55 0 (((2 * (7 * f + i)) + b).toNat))]) (m' := m0) (o := some ((0 < 1) ∧ (0 < 1 ∧ 0 ≤ (2 * (7 * f + i)) + b ∧ (2 * (7 * f + i)) + b < ((112 : Nat) : Int)))) rfl (show (0 < 1) ∧ (0 < 1 ∧ 0 ≤ (2 * (7 * f + i)) + b ∧ (2 * (7 * f + i)) + b < ((112 : Nat) : Int)) from by omega) ?_
      refine ww_if (t := 58) rfl rfl (by omega) (fun (h23 : m0.1 55 0 (((2 * (7 * f + i)) + b).toNat) = 0) => ?_) (fun (h23 : ¬ (m0.1 55 0 (((2 * (7 * f + i)) + b).toNat) = 0)) => ?_)
      · show wW (zK sc) zM248 58 [(6, .inl (m0.1 47 0 (((24 * q) + 7).toNat))), (5, .inl (24 * q)), (0, .inr (.inr (.inl (some (34, 0))))), (1, .inl q), (2, .inl f), (3, .inl (7 * f + i)), (4, .inl b)] [] _ _ _
        refine ww_sub (L := [(0, .inr (.inr (.inl (some (34, 0))))), (1, .inl q), (2, .inl f), (3, .inl (7 * f + i)), (4, .inl b), (5, .inl (24 * q)), (6, .inl (m0.1 47 0 (((24 * q) + 7).toNat)))]) ⟨rfl, rfl, rfl, rfl, rfl, rfl, rfl, trivial⟩ rfl rfl ?_
        exact (yt248_l58 hc q f b i hG hR h0 hs hb _) (m0.1 47 0 (((24 * q) + 7).toNat)) rfl (by omega) (by omega) (by exact fun z => z.elim (fun z => by omega) (fun z => by omega))
      · show wW (zK sc) zM248 52 [(6, .inl (m0.1 47 0 (((24 * q) + 7).toNat))), (5, .inl (24 * q)), (0, .inr (.inr (.inl (some (34, 0))))), (1, .inl q), (2, .inl f), (3, .inl (7 * f + i)), (4, .inl b)] [] _ _ _
        refine ww_go 2 (pc' := 54) (L' := [(6, .inl (m0.1 47 0 (((24 * q) + 7).toNat))), (5, .inl (24 * q)), (0, .inr (.inr (.inl (some (34, 0))))), (1, .inl q), (2, .inl f), (3, .inl (7 * f + i)), (4, .inl b)]) (st' := [.inl 4, .inr (.inr (.inl (some (34, 0))))]) (m' := m0) (o := none) rfl trivial ?_
        refine ww_call (vs := [.inr (.inr (.inl (some (34, 0)))), .inl 4]) (r := []) (p := 0 < 1) rfl rfl rfl rfl (show 0 < 1 from by omega) (yt193 (c := c) (by omega) 4 hG (by omega)) ?_
        rintro _ _ m26 ⟨r24, rfl, rfl, hGm26, hEm26, hr25⟩
        have hFm26 : zfr (fun k i j => (k = 58) ∨ (k = 59) ∨ (k = 60) ∨ (k = 61) ∨ (k = 34 ∧ j = 30) ∨ (k = 54) ∨ (k = 55) ∨ (k = 57) ∨ (k = 56) ∨ (k = 51) ∨ (k = 52) ∨ (k = 53) ∨ (k = 71) ∨ (k = 72) ∨ (k = 34 ∧ j = 48) ∨ (k = 34 ∧ j = 47) ∨ (k = 34 ∧ j = 35)) m0 m26 := zfr_tr hF hEm26 (fun k i j z => Or.inr (Or.inr (Or.inr (Or.inr (Or.inr (Or.inr (Or.inr (Or.inr (Or.inr (Or.inr (Or.inr (Or.inr (Or.inr (Or.inr (Or.inr (Or.inr (z)))))))))))))))))
        have w27 : m26.1 54 0 ((7 * f + i).toNat) = m0.1 54 0 ((7 * f + i).toNat) := (hEm26 54 0 ((7 * f + i).toNat) (show ¬ ((54 = 34 ∧ ((7 * f + i).toNat) = 35)) from by omega)).1
        have w28 : m26.1 55 0 ((2 * (7 * f + i) + b).toNat) = m0.1 55 0 ((2 * (7 * f + i) + b).toNat) := (hEm26 55 0 ((2 * (7 * f + i) + b).toNat) (show ¬ ((55 = 34 ∧ ((2 * (7 * f + i) + b).toNat) = 35)) from by omega)).1
        have w29 : m26.1 51 0 f.toNat = m0.1 51 0 f.toNat := (hEm26 51 0 f.toNat (show ¬ ((51 = 34 ∧ f.toNat = 35)) from by omega)).1
        have w30 : m26.1 34 0 30 = m0.1 34 0 30 := (hEm26 34 0 30 (show ¬ ((34 = 34 ∧ 30 = 35)) from by omega)).1
        have hRm26 : zRI m26 := zRI_fr hR hEm26 (fun k j hk => (show ¬ ((k = 34 ∧ j = 35)) from by omega))
        show wW (zK sc) zM248 57 [(6, .inl (m0.1 47 0 (((24 * q) + 7).toNat))), (5, .inl (24 * q)), (0, .inr (.inr (.inl (some (34, 0))))), (1, .inl q), (2, .inl f), (3, .inl (7 * f + i)), (4, .inl b)] [.inl r24] _ _ _
        exact ww_rI rfl rfl ⟨_, rfl, rfl, zB_mono hGm26 (by omega), hFm26, ⟨hRm26, ⟨by omega, Or.inl ⟨hr25.1, (by first | exact Or.inl ⟨by omega, by omega⟩ | exact Or.inr (by omega)), hr25.2⟩⟩⟩⟩
