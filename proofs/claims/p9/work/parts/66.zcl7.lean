set_option maxRecDepth 8000 in
theorem zs91_l4 {sc : xSc} {n : Nat × Nat} {m0 : wm} {c : Int} (hc : 0 ≤ c ∧ c ≤ 990000) (x : Int) (hG : zB c m0) (h0 : 0 ≤ x ∧ x ≤ 1) : ∀ (d : Nat), ∀ (q : Option (Nat × Nat)) (z : Int), (4 - z).toNat = d → (0 ≤ z ∧ z ≤ 4) → (q = none ∨ ∃ e : Nat, q = some (26, e) ∧ e < 8) →  wW (zK sc) zM91 4 [(0, .inr (.inr (.inl (some (19, 0))))), (1, .inl x), (2, .inr (.inr (.inl q))), (3, .inl z)] [] n m0 (wr (fun vv n1 m1 => ∃ r : Int, vv = some (.inl r) ∧ n = n1 ∧ zB (c + 1) m1 ∧ zfr (fun k i j => (k = 22) ∨ (k = 23) ∨ (k = 24) ∨ (k = 25) ∨ (k = 1 ∧ 101 ≤ i ∧ i < 171 ∧ j = 1) ∨ (k = 2 ∧ 101 ≤ i ∧ i < 171) ∨ (26 ≤ k ∧ k ≤ 33 ∧ i < 10) ∨ (k = 1 ∧ i = 2 ∧ j = 1) ∨ (k = 2 ∧ i = 2) ∨ (k = 16) ∨ (k = 17) ∨ (k = 18)) m0 m1 ∧ (0 ≤ r ∧ r ≤ 65535))) := by
  intro d
  induction d using Nat.strongRecOn with
  | ind d ih =>
    intro q z hd hi hq
    have hF : zfr (fun k i j => (k = 22) ∨ (k = 23) ∨ (k = 24) ∨ (k = 25) ∨ (k = 1 ∧ 101 ≤ i ∧ i < 171 ∧ j = 1) ∨ (k = 2 ∧ 101 ≤ i ∧ i < 171) ∨ (26 ≤ k ∧ k ≤ 33 ∧ i < 10) ∨ (k = 1 ∧ i = 2 ∧ j = 1) ∨ (k = 2 ∧ i = 2) ∨ (k = 16) ∨ (k = 17) ∨ (k = 18)) m0 m0 := zfr_rf
    rcases hq with rfl | ⟨u9, rfl, hu9⟩
    · show wW (zK sc) zM91 4 [(0, .inr (.inr (.inl (some (19, 0))))), (1, .inl x), (2, .inr (.inr (.inl none))), (3, .inl z)] [] _ _ _
      refine ww_go 2 (pc' := 6) (L' := [(0, .inr (.inr (.inl (some (19, 0))))), (1, .inl x), (2, .inr (.inr (.inl none))), (3, .inl z)]) (st' := [.inl 4, .inl z]) (m' := m0) (o := none) rfl trivial ?_
      refine ww_ic (t := 67) rfl rfl (by omega) (fun (h1 : 4 ≤ z) => ?_) (fun (h1 : ¬ (4 ≤ z)) => ?_)
      · show wW (zK sc) zM91 67 [(0, .inr (.inr (.inl (some (19, 0))))), (1, .inl x), (2, .inr (.inr (.inl none))), (3, .inl z)] [] _ _ _
        refine ww_go 1 (pc' := 68) (L' := [(0, .inr (.inr (.inl (some (19, 0))))), (1, .inl x), (2, .inr (.inr (.inl none))), (3, .inl z)]) (st' := [.inr (.inr (.inl none))]) (m' := m0) (o := none) rfl trivial ?_
        refine ww_nn (t := 73) rfl rfl (fun zz9 h => by cases h) (fun h => ?_)
        show wW (zK sc) zM91 71 [(0, .inr (.inr (.inl (some (19, 0))))), (1, .inl x), (2, .inr (.inr (.inl none))), (3, .inl z)] [] _ _ _
        refine ww_go 1 (pc' := 72) (L' := [(0, .inr (.inr (.inl (some (19, 0))))), (1, .inl x), (2, .inr (.inr (.inl none))), (3, .inl z)]) (st' := [.inl 0]) (m' := m0) (o := none) rfl trivial ?_
        exact ww_rI rfl rfl ⟨_, rfl, rfl, zB_mono hG (by omega), hF, by omega⟩
      · show wW (zK sc) zM91 9 [(0, .inr (.inr (.inl (some (19, 0))))), (1, .inl x), (2, .inr (.inr (.inl none))), (3, .inl z)] [] _ _ _
        refine ww_go 3 (pc' := 12) (L' := [(0, .inr (.inr (.inl (some (19, 0))))), (1, .inl x), (2, .inr (.inr (.inl none))), (3, .inl z)]) (st' := [.inl z, .inl x, .inr (.inr (.inl (some (19, 0))))]) (m' := m0) (o := none) rfl trivial ?_
        refine ww_call (vs := [.inr (.inr (.inl (some (19, 0)))), .inl x, .inl z]) (r := []) (p := 0 < 1) rfl rfl rfl rfl (show 0 < 1 from by omega) (zs87 (c := c) (by omega) x z hG (by omega)) ?_
        rintro _ _ _ ⟨r2, rfl, rfl, rfl, hr3⟩
        show wW (zK sc) zM91 15 [(0, .inr (.inr (.inl (some (19, 0))))), (1, .inl x), (2, .inr (.inr (.inl none))), (3, .inl z)] [.inr (.inr (.inl (some (26, r2))))] _ _ _
        refine ww_go 2 (pc' := 18) (L' := [(4, .inr (.inr (.inl (some (26, r2))))), (0, .inr (.inr (.inl (some (19, 0))))), (1, .inl x), (2, .inr (.inr (.inl none))), (3, .inl z)]) (st' := [.inr (.inr (.inl none))]) (m' := m0) (o := none) rfl trivial ?_
        refine ww_nn (t := 33) rfl rfl (fun zz9 h => by cases h) (fun h => ?_)
        show wW (zK sc) zM91 21 [(4, .inr (.inr (.inl (some (26, r2))))), (0, .inr (.inr (.inl (some (19, 0))))), (1, .inl x), (2, .inr (.inr (.inl none))), (3, .inl z)] [] _ _ _
        refine ww_go 4 (pc' := 27) (L' := [(4, .inr (.inr (.inl (some (26, r2))))), (0, .inr (.inr (.inl (some (19, 0))))), (1, .inl x), (2, .inr (.inr (.inl none))), (3, .inl z)]) (st' := [.inr (.inr (.inl (some (26, 8 + x.toNat))))]) (m' := m0) (o := some ((0 < 1) ∧ (0 < 1 ∧ 0 ≤ x ∧ x < ((2 : Nat) : Int)))) rfl (show (0 < 1) ∧ (0 < 1 ∧ 0 ≤ x ∧ x < ((2 : Nat) : Int)) from by omega) ?_
        refine ww_call (vs := [.inr (.inr (.inl (some (26, 8 + x.toNat))))]) (r := []) (p := 8 + x.toNat < 10) rfl rfl rfl rfl (show 8 + x.toNat < 10 from by omega) (zs155 (c := c) (by omega) (8 + x.toNat) hG (by omega)) ?_
        rintro _ _ _ ⟨r4, rfl, rfl, rfl, hr5⟩
        show wW (zK sc) zM91 30 [(4, .inr (.inr (.inl (some (26, r2))))), (0, .inr (.inr (.inl (some (19, 0))))), (1, .inl x), (2, .inr (.inr (.inl none))), (3, .inl z)] [.inl r4] _ _ _
        refine ww_go 3 (pc' := 41) (L' := [(5, .inl r4), (4, .inr (.inr (.inl (some (26, r2))))), (0, .inr (.inr (.inl (some (19, 0))))), (1, .inl x), (2, .inr (.inr (.inl none))), (3, .inl z)]) (st' := [.inr (.inr (.inl (some (26, r2))))]) (m' := m0) (o := none) rfl trivial ?_
        refine ww_call (vs := [.inr (.inr (.inl (some (26, r2))))]) (r := []) (p := r2 < 10) rfl rfl rfl rfl (show r2 < 10 from by omega) (zs159 (c := c) (by omega) r2 hG (by omega)) ?_
        rintro _ _ _ ⟨r6, rfl, rfl, rfl, hr7⟩
        show wW (zK sc) zM91 44 [(5, .inl r4), (4, .inr (.inr (.inl (some (26, r2))))), (0, .inr (.inr (.inl (some (19, 0))))), (1, .inl x), (2, .inr (.inr (.inl none))), (3, .inl z)] [.inl r6] _ _ _
        refine ww_go 1 (pc' := 45) (L' := [(5, .inl r4), (4, .inr (.inr (.inl (some (26, r2))))), (0, .inr (.inr (.inl (some (19, 0))))), (1, .inl x), (2, .inr (.inr (.inl none))), (3, .inl z)]) (st' := [.inl 2, .inl r6]) (m' := m0) (o := none) rfl trivial ?_
        refine ww_ic (t := 61) rfl rfl (by omega) (fun (h8 : r6 ≠ 2) => ?_) (fun (h8 : ¬ (r6 ≠ 2)) => ?_)
        · show wW (zK sc) zM91 61 [(5, .inl r4), (4, .inr (.inr (.inl (some (26, r2))))), (0, .inr (.inr (.inl (some (19, 0))))), (1, .inl x), (2, .inr (.inr (.inl none))), (3, .inl z)] [] _ _ _
          refine ww_go 2 (pc' := 4) (L' := [(3, .inl (z + 1)), (5, .inl r4), (4, .inr (.inr (.inl (some (26, r2))))), (0, .inr (.inr (.inl (some (19, 0))))), (1, .inl x), (2, .inr (.inr (.inl none)))]) (st' := []) (m' := m0) (o := none) rfl trivial ?_
          refine ww_sub (L := [(0, .inr (.inr (.inl (some (19, 0))))), (1, .inl x), (2, .inr (.inr (.inl none))), (3, .inl (z + 1))]) ⟨rfl, rfl, rfl, rfl, trivial⟩ rfl rfl ?_
          exact (ih _ (by omega)) none (z + 1) rfl (by omega) (by first | exact Or.inl rfl | exact Or.inr ⟨_, rfl, by omega⟩)
        · show wW (zK sc) zM91 48 [(5, .inl r4), (4, .inr (.inr (.inl (some (26, r2))))), (0, .inr (.inr (.inl (some (19, 0))))), (1, .inl x), (2, .inr (.inr (.inl none))), (3, .inl z)] [] _ _ _
          refine ww_go 1 (pc' := 50) (L' := [(5, .inl r4), (4, .inr (.inr (.inl (some (26, r2))))), (0, .inr (.inr (.inl (some (19, 0))))), (1, .inl x), (2, .inr (.inr (.inl none))), (3, .inl z)]) (st' := [.inr (.inr (.inl (some (26, r2))))]) (m' := m0) (o := none) rfl trivial ?_
          refine ww_call (vs := [.inr (.inr (.inl (some (26, r2))))]) (r := []) (p := r2 < 10) rfl rfl rfl rfl (show r2 < 10 from by omega) (zs155 (c := c) (by omega) r2 hG (by omega)) ?_
          rintro _ _ _ ⟨r9, rfl, rfl, rfl, hr10⟩
          show wW (zK sc) zM91 53 [(5, .inl r4), (4, .inr (.inr (.inl (some (26, r2))))), (0, .inr (.inr (.inl (some (19, 0))))), (1, .inl x), (2, .inr (.inr (.inl none))), (3, .inl z)] [.inl r9] _ _ _
          refine ww_go 1 (pc' := 55) (L' := [(5, .inl r4), (4, .inr (.inr (.inl (some (26, r2))))), (0, .inr (.inr (.inl (some (19, 0))))), (1, .inl x), (2, .inr (.inr (.inl none))), (3, .inl z)]) (st' := [.inl r4, .inl r9]) (m' := m0) (o := none) rfl trivial ?_
          refine ww_ic (t := 61) rfl rfl (by omega) (fun (h11 : r9 ≤ r4) => ?_) (fun (h11 : ¬ (r9 ≤ r4)) => ?_)
          · show wW (zK sc) zM91 61 [(5, .inl r4), (4, .inr (.inr (.inl (some (26, r2))))), (0, .inr (.inr (.inl (some (19, 0))))), (1, .inl x), (2, .inr (.inr (.inl none))), (3, .inl z)] [] _ _ _
            refine ww_go 2 (pc' := 4) (L' := [(3, .inl (z + 1)), (5, .inl r4), (4, .inr (.inr (.inl (some (26, r2))))), (0, .inr (.inr (.inl (some (19, 0))))), (1, .inl x), (2, .inr (.inr (.inl none)))]) (st' := []) (m' := m0) (o := none) rfl trivial ?_
            refine ww_sub (L := [(0, .inr (.inr (.inl (some (19, 0))))), (1, .inl x), (2, .inr (.inr (.inl none))), (3, .inl (z + 1))]) ⟨rfl, rfl, rfl, rfl, trivial⟩ rfl rfl ?_
            exact (ih _ (by omega)) none (z + 1) rfl (by omega) (by first | exact Or.inl rfl | exact Or.inr ⟨_, rfl, by omega⟩)
          · show wW (zK sc) zM91 58 [(5, .inl r4), (4, .inr (.inr (.inl (some (26, r2))))), (0, .inr (.inr (.inl (some (19, 0))))), (1, .inl x), (2, .inr (.inr (.inl none))), (3, .inl z)] [] _ _ _
            refine ww_go 4 (pc' := 4) (L' := [(3, .inl (z + 1)), (2, .inr (.inr (.inl (some (26, r2))))), (5, .inl r4), (4, .inr (.inr (.inl (some (26, r2))))), (0, .inr (.inr (.inl (some (19, 0))))), (1, .inl x)]) (st' := []) (m' := m0) (o := none) rfl trivial ?_
            refine ww_sub (L := [(0, .inr (.inr (.inl (some (19, 0))))), (1, .inl x), (2, .inr (.inr (.inl (some (26, r2))))), (3, .inl (z + 1))]) ⟨rfl, rfl, rfl, rfl, trivial⟩ rfl rfl ?_
            exact (ih _ (by omega)) (some (26, r2)) (z + 1) rfl (by omega) (by first | exact Or.inl rfl | exact Or.inr ⟨_, rfl, by omega⟩)
    · show wW (zK sc) zM91 4 [(0, .inr (.inr (.inl (some (19, 0))))), (1, .inl x), (2, .inr (.inr (.inl (some (26, u9))))), (3, .inl z)] [] _ _ _
      refine ww_go 2 (pc' := 6) (L' := [(0, .inr (.inr (.inl (some (19, 0))))), (1, .inl x), (2, .inr (.inr (.inl (some (26, u9))))), (3, .inl z)]) (st' := [.inl 4, .inl z]) (m' := m0) (o := none) rfl trivial ?_
      refine ww_ic (t := 67) rfl rfl (by omega) (fun (h12 : 4 ≤ z) => ?_) (fun (h12 : ¬ (4 ≤ z)) => ?_)
      · show wW (zK sc) zM91 67 [(0, .inr (.inr (.inl (some (19, 0))))), (1, .inl x), (2, .inr (.inr (.inl (some (26, u9))))), (3, .inl z)] [] _ _ _
        refine ww_go 1 (pc' := 68) (L' := [(0, .inr (.inr (.inl (some (19, 0))))), (1, .inl x), (2, .inr (.inr (.inl (some (26, u9))))), (3, .inl z)]) (st' := [.inr (.inr (.inl (some (26, u9))))]) (m' := m0) (o := none) rfl trivial ?_
        refine ww_nn (t := 73) rfl rfl (fun zz9 h => ?_) (fun h => by cases h)
        show wW (zK sc) zM91 73 [(0, .inr (.inr (.inl (some (19, 0))))), (1, .inl x), (2, .inr (.inr (.inl (some (26, u9))))), (3, .inl z)] [] _ _ _
        refine ww_go 2 (pc' := 75) (L' := [(0, .inr (.inr (.inl (some (19, 0))))), (1, .inl x), (2, .inr (.inr (.inl (some (26, u9))))), (3, .inl z)]) (st' := [.inl 5, .inr (.inr (.inl (some (26, u9))))]) (m' := m0) (o := none) rfl trivial ?_
        refine ww_call (vs := [.inr (.inr (.inl (some (26, u9)))), .inl 5]) (r := []) (p := u9 < 10) rfl rfl rfl rfl (show u9 < 10 from by omega) (zs137 (c := c) (by omega) 5 u9 hG (by omega)) ?_
        rintro _ _ m15 ⟨rfl, rfl, hGm15, hEm15, hr14⟩
        have hFm15 : zfr (fun k i j => (k = 22) ∨ (k = 23) ∨ (k = 24) ∨ (k = 25) ∨ (k = 1 ∧ 101 ≤ i ∧ i < 171 ∧ j = 1) ∨ (k = 2 ∧ 101 ≤ i ∧ i < 171) ∨ (26 ≤ k ∧ k ≤ 33 ∧ i < 10) ∨ (k = 1 ∧ i = 2 ∧ j = 1) ∨ (k = 2 ∧ i = 2) ∨ (k = 16) ∨ (k = 17) ∨ (k = 18)) m0 m15 := zfr_tr hF hEm15 (fun k i j z => (show (k = 22) ∨ (k = 23) ∨ (k = 24) ∨ (k = 25) ∨ (k = 1 ∧ 101 ≤ i ∧ i < 171 ∧ j = 1) ∨ (k = 2 ∧ 101 ≤ i ∧ i < 171) ∨ (26 ≤ k ∧ k ≤ 33 ∧ i < 10) ∨ (k = 1 ∧ i = 2 ∧ j = 1) ∨ (k = 2 ∧ i = 2) ∨ (k = 16) ∨ (k = 17) ∨ (k = 18) from by omega))
        show wW (zK sc) zM91 78 [(0, .inr (.inr (.inl (some (19, 0))))), (1, .inl x), (2, .inr (.inr (.inl (some (26, u9))))), (3, .inl z)] [] _ _ _
        refine ww_go 5 (pc' := 85) (L' := [(0, .inr (.inr (.inl (some (19, 0))))), (1, .inl x), (2, .inr (.inr (.inl (some (26, u9))))), (3, .inl z)]) (st' := [.inr (.inr (.inl (some (26, u9)))), .inr (.inr (.inl (some (26, 8 + x.toNat))))]) (m' := m15) (o := some ((0 < 1) ∧ (0 < 1 ∧ 0 ≤ x ∧ x < ((2 : Nat) : Int)))) rfl (show (0 < 1) ∧ (0 < 1 ∧ 0 ≤ x ∧ x < ((2 : Nat) : Int)) from by omega) ?_
        refine ww_call (vs := [.inr (.inr (.inl (some (26, 8 + x.toNat)))), .inr (.inr (.inl (some (26, u9))))]) (r := []) (p := 8 + x.toNat < 10) rfl rfl rfl rfl (show 8 + x.toNat < 10 from by omega) (zs157 (c := c) (by omega) (8 + x.toNat) u9 hGm15 (by omega)) ?_
        rintro _ _ m18 ⟨rfl, rfl, hGm18, hEm18, hr17⟩
        have hFm18 : zfr (fun k i j => (k = 22) ∨ (k = 23) ∨ (k = 24) ∨ (k = 25) ∨ (k = 1 ∧ 101 ≤ i ∧ i < 171 ∧ j = 1) ∨ (k = 2 ∧ 101 ≤ i ∧ i < 171) ∨ (26 ≤ k ∧ k ≤ 33 ∧ i < 10) ∨ (k = 1 ∧ i = 2 ∧ j = 1) ∨ (k = 2 ∧ i = 2) ∨ (k = 16) ∨ (k = 17) ∨ (k = 18)) m0 m18 := zfr_tr hFm15 hEm18 (fun k i j z => Or.elim z (fun z => Or.inr (Or.inr (Or.inr (Or.inr (Or.inl z))))) (fun z => Or.elim z (fun z => Or.inr (Or.inr (Or.inr (Or.inr (Or.inr (Or.inl z)))))) (fun z => Or.elim z (fun z => (show (k = 22) ∨ (k = 23) ∨ (k = 24) ∨ (k = 25) ∨ (k = 1 ∧ 101 ≤ i ∧ i < 171 ∧ j = 1) ∨ (k = 2 ∧ 101 ≤ i ∧ i < 171) ∨ (26 ≤ k ∧ k ≤ 33 ∧ i < 10) ∨ (k = 1 ∧ i = 2 ∧ j = 1) ∨ (k = 2 ∧ i = 2) ∨ (k = 16) ∨ (k = 17) ∨ (k = 18) from by omega)) (fun z => Or.elim z (fun z => (show (k = 22) ∨ (k = 23) ∨ (k = 24) ∨ (k = 25) ∨ (k = 1 ∧ 101 ≤ i ∧ i < 171 ∧ j = 1) ∨ (k = 2 ∧ 101 ≤ i ∧ i < 171) ∨ (26 ≤ k ∧ k ≤ 33 ∧ i < 10) ∨ (k = 1 ∧ i = 2 ∧ j = 1) ∨ (k = 2 ∧ i = 2) ∨ (k = 16) ∨ (k = 17) ∨ (k = 18) from by omega)) (fun z => Or.elim z (fun z => (show (k = 22) ∨ (k = 23) ∨ (k = 24) ∨ (k = 25) ∨ (k = 1 ∧ 101 ≤ i ∧ i < 171 ∧ j = 1) ∨ (k = 2 ∧ 101 ≤ i ∧ i < 171) ∨ (26 ≤ k ∧ k ≤ 33 ∧ i < 10) ∨ (k = 1 ∧ i = 2 ∧ j = 1) ∨ (k = 2 ∧ i = 2) ∨ (k = 16) ∨ (k = 17) ∨ (k = 18) from by omega)) (fun z => (show (k = 22) ∨ (k = 23) ∨ (k = 24) ∨ (k = 25) ∨ (k = 1 ∧ 101 ≤ i ∧ i < 171 ∧ j = 1) ∨ (k = 2 ∧ 101 ≤ i ∧ i < 171) ∨ (26 ≤ k ∧ k ≤ 33 ∧ i < 10) ∨ (k = 1 ∧ i = 2 ∧ j = 1) ∨ (k = 2 ∧ i = 2) ∨ (k = 16) ∨ (k = 17) ∨ (k = 18) from by omega)))))))
        show wW (zK sc) zM91 88 [(0, .inr (.inr (.inl (some (19, 0))))), (1, .inl x), (2, .inr (.inr (.inl (some (26, u9))))), (3, .inl z)] [] _ _ _
        refine ww_go 4 (pc' := 94) (L' := [(0, .inr (.inr (.inl (some (19, 0))))), (1, .inl x), (2, .inr (.inr (.inl (some (26, u9))))), (3, .inl z)]) (st' := [.inr (.inr (.inl (some (26, u9)))), .inl x, .inr (.inr (.inl (some (16, 0))))]) (m' := m18) (o := some ((0 < 1))) rfl (show (0 < 1) from by omega) ?_
        refine ww_call (vs := [.inr (.inr (.inl (some (26, u9))))]) (r := [.inl x, .inr (.inr (.inl (some (16, 0))))]) (p := u9 < 10) rfl rfl rfl rfl (show u9 < 10 from by omega) (zs155 (c := c) (by omega) u9 hGm18 (by omega)) ?_
        rintro _ _ _ ⟨r19, rfl, rfl, rfl, hr20⟩
        show wW (zK sc) zM91 97 [(0, .inr (.inr (.inl (some (19, 0))))), (1, .inl x), (2, .inr (.inr (.inl (some (26, u9))))), (3, .inl z)] [.inl r19, .inl x, .inr (.inr (.inl (some (16, 0))))] _ _ _
        refine ww_go 2 (pc' := 99) (L' := [(0, .inr (.inr (.inl (some (19, 0))))), (1, .inl x), (2, .inr (.inr (.inl (some (26, u9))))), (3, .inl z)]) (st' := [.inl 0, .inl 0, .inl r19, .inl x, .inr (.inr (.inl (some (16, 0))))]) (m' := m18) (o := none) rfl trivial ?_
        refine ww_call (vs := [.inr (.inr (.inl (some (16, 0)))), .inl x, .inl r19, .inl 0, .inl 0]) (r := []) (p := 0 < 1) rfl rfl rfl rfl (show 0 < 1 from by omega) (zs65 (c := c) (by omega) x r19 0 0 hGm18 (by omega)) ?_
        rintro _ _ m23 ⟨rfl, rfl, hGm23, hEm23, hr22⟩
        have hFm23 : zfr (fun k i j => (k = 22) ∨ (k = 23) ∨ (k = 24) ∨ (k = 25) ∨ (k = 1 ∧ 101 ≤ i ∧ i < 171 ∧ j = 1) ∨ (k = 2 ∧ 101 ≤ i ∧ i < 171) ∨ (26 ≤ k ∧ k ≤ 33 ∧ i < 10) ∨ (k = 1 ∧ i = 2 ∧ j = 1) ∨ (k = 2 ∧ i = 2) ∨ (k = 16) ∨ (k = 17) ∨ (k = 18)) m0 m23 := zfr_tr hFm18 hEm23 (fun k i j z => Or.elim z (fun z => Or.inr (Or.inr (Or.inr (Or.inr (Or.inr (Or.inr (Or.inr (Or.inl z)))))))) (fun z => Or.elim z (fun z => Or.inr (Or.inr (Or.inr (Or.inr (Or.inr (Or.inr (Or.inr (Or.inr (Or.inl z))))))))) (fun z => Or.elim z (fun z => Or.inr (Or.inr (Or.inr (Or.inr (Or.inr (Or.inr (Or.inr (Or.inr (Or.inr (Or.inl z)))))))))) (fun z => Or.elim z (fun z => Or.inr (Or.inr (Or.inr (Or.inr (Or.inr (Or.inr (Or.inr (Or.inr (Or.inr (Or.inr (Or.inl z))))))))))) (fun z => Or.inr (Or.inr (Or.inr (Or.inr (Or.inr (Or.inr (Or.inr (Or.inr (Or.inr (Or.inr (Or.inr (z))))))))))))))))
        show wW (zK sc) zM91 102 [(0, .inr (.inr (.inl (some (19, 0))))), (1, .inl x), (2, .inr (.inr (.inl (some (26, u9))))), (3, .inl z)] [] _ _ _
        refine ww_go 1 (pc' := 103) (L' := [(0, .inr (.inr (.inl (some (19, 0))))), (1, .inl x), (2, .inr (.inr (.inl (some (26, u9))))), (3, .inl z)]) (st' := [.inr (.inr (.inl (some (26, u9))))]) (m' := m23) (o := none) rfl trivial ?_
        refine ww_call (vs := [.inr (.inr (.inl (some (26, u9))))]) (r := []) (p := u9 < 10) rfl rfl rfl rfl (show u9 < 10 from by omega) (zs155 (c := (c + 1)) (by omega) u9 hGm23 (by omega)) ?_
        rintro _ _ _ ⟨r24, rfl, rfl, rfl, hr25⟩
        show wW (zK sc) zM91 106 [(0, .inr (.inr (.inl (some (19, 0))))), (1, .inl x), (2, .inr (.inr (.inl (some (26, u9))))), (3, .inl z)] [.inl r24] _ _ _
        exact ww_rI rfl rfl ⟨_, rfl, rfl, zB_mono hGm23 (by omega), hFm23, by omega⟩
      · show wW (zK sc) zM91 9 [(0, .inr (.inr (.inl (some (19, 0))))), (1, .inl x), (2, .inr (.inr (.inl (some (26, u9))))), (3, .inl z)] [] _ _ _
        refine ww_go 3 (pc' := 12) (L' := [(0, .inr (.inr (.inl (some (19, 0))))), (1, .inl x), (2, .inr (.inr (.inl (some (26, u9))))), (3, .inl z)]) (st' := [.inl z, .inl x, .inr (.inr (.inl (some (19, 0))))]) (m' := m0) (o := none) rfl trivial ?_
        refine ww_call (vs := [.inr (.inr (.inl (some (19, 0)))), .inl x, .inl z]) (r := []) (p := 0 < 1) rfl rfl rfl rfl (show 0 < 1 from by omega) (zs87 (c := c) (by omega) x z hG (by omega)) ?_
        rintro _ _ _ ⟨r26, rfl, rfl, rfl, hr27⟩
        show wW (zK sc) zM91 15 [(0, .inr (.inr (.inl (some (19, 0))))), (1, .inl x), (2, .inr (.inr (.inl (some (26, u9))))), (3, .inl z)] [.inr (.inr (.inl (some (26, r26))))] _ _ _
        refine ww_go 2 (pc' := 18) (L' := [(4, .inr (.inr (.inl (some (26, r26))))), (0, .inr (.inr (.inl (some (19, 0))))), (1, .inl x), (2, .inr (.inr (.inl (some (26, u9))))), (3, .inl z)]) (st' := [.inr (.inr (.inl (some (26, u9))))]) (m' := m0) (o := none) rfl trivial ?_
        refine ww_nn (t := 33) rfl rfl (fun zz9 h => ?_) (fun h => by cases h)
        show wW (zK sc) zM91 33 [(4, .inr (.inr (.inl (some (26, r26))))), (0, .inr (.inr (.inl (some (19, 0))))), (1, .inl x), (2, .inr (.inr (.inl (some (26, u9))))), (3, .inl z)] [] _ _ _
        refine ww_go 1 (pc' := 34) (L' := [(4, .inr (.inr (.inl (some (26, r26))))), (0, .inr (.inr (.inl (some (19, 0))))), (1, .inl x), (2, .inr (.inr (.inl (some (26, u9))))), (3, .inl z)]) (st' := [.inr (.inr (.inl (some (26, u9))))]) (m' := m0) (o := none) rfl trivial ?_
        refine ww_call (vs := [.inr (.inr (.inl (some (26, u9))))]) (r := []) (p := u9 < 10) rfl rfl rfl rfl (show u9 < 10 from by omega) (zs155 (c := c) (by omega) u9 hG (by omega)) ?_
        rintro _ _ _ ⟨r28, rfl, rfl, rfl, hr29⟩
        show wW (zK sc) zM91 37 [(4, .inr (.inr (.inl (some (26, r26))))), (0, .inr (.inr (.inl (some (19, 0))))), (1, .inl x), (2, .inr (.inr (.inl (some (26, u9))))), (3, .inl z)] [.inl r28] _ _ _
        refine ww_go 2 (pc' := 41) (L' := [(5, .inl r28), (4, .inr (.inr (.inl (some (26, r26))))), (0, .inr (.inr (.inl (some (19, 0))))), (1, .inl x), (2, .inr (.inr (.inl (some (26, u9))))), (3, .inl z)]) (st' := [.inr (.inr (.inl (some (26, r26))))]) (m' := m0) (o := none) rfl trivial ?_
        refine ww_call (vs := [.inr (.inr (.inl (some (26, r26))))]) (r := []) (p := r26 < 10) rfl rfl rfl rfl (show r26 < 10 from by omega) (zs159 (c := c) (by omega) r26 hG (by omega)) ?_
        rintro _ _ _ ⟨r30, rfl, rfl, rfl, hr31⟩
        show wW (zK sc) zM91 44 [(5, .inl r28), (4, .inr (.inr (.inl (some (26, r26))))), (0, .inr (.inr (.inl (some (19, 0))))), (1, .inl x), (2, .inr (.inr (.inl (some (26, u9))))), (3, .inl z)] [.inl r30] _ _ _
        refine ww_go 1 (pc' := 45) (L' := [(5, .inl r28), (4, .inr (.inr (.inl (some (26, r26))))), (0, .inr (.inr (.inl (some (19, 0))))), (1, .inl x), (2, .inr (.inr (.inl (some (26, u9))))), (3, .inl z)]) (st' := [.inl 2, .inl r30]) (m' := m0) (o := none) rfl trivial ?_
        refine ww_ic (t := 61) rfl rfl (by omega) (fun (h32 : r30 ≠ 2) => ?_) (fun (h32 : ¬ (r30 ≠ 2)) => ?_)
        · show wW (zK sc) zM91 61 [(5, .inl r28), (4, .inr (.inr (.inl (some (26, r26))))), (0, .inr (.inr (.inl (some (19, 0))))), (1, .inl x), (2, .inr (.inr (.inl (some (26, u9))))), (3, .inl z)] [] _ _ _
          refine ww_go 2 (pc' := 4) (L' := [(3, .inl (z + 1)), (5, .inl r28), (4, .inr (.inr (.inl (some (26, r26))))), (0, .inr (.inr (.inl (some (19, 0))))), (1, .inl x), (2, .inr (.inr (.inl (some (26, u9)))))]) (st' := []) (m' := m0) (o := none) rfl trivial ?_
          refine ww_sub (L := [(0, .inr (.inr (.inl (some (19, 0))))), (1, .inl x), (2, .inr (.inr (.inl (some (26, u9))))), (3, .inl (z + 1))]) ⟨rfl, rfl, rfl, rfl, trivial⟩ rfl rfl ?_
          exact (ih _ (by omega)) (some (26, u9)) (z + 1) rfl (by omega) (by first | exact Or.inl rfl | exact Or.inr ⟨_, rfl, by omega⟩)
        · show wW (zK sc) zM91 48 [(5, .inl r28), (4, .inr (.inr (.inl (some (26, r26))))), (0, .inr (.inr (.inl (some (19, 0))))), (1, .inl x), (2, .inr (.inr (.inl (some (26, u9))))), (3, .inl z)] [] _ _ _
          refine ww_go 1 (pc' := 50) (L' := [(5, .inl r28), (4, .inr (.inr (.inl (some (26, r26))))), (0, .inr (.inr (.inl (some (19, 0))))), (1, .inl x), (2, .inr (.inr (.inl (some (26, u9))))), (3, .inl z)]) (st' := [.inr (.inr (.inl (some (26, r26))))]) (m' := m0) (o := none) rfl trivial ?_
          refine ww_call (vs := [.inr (.inr (.inl (some (26, r26))))]) (r := []) (p := r26 < 10) rfl rfl rfl rfl (show r26 < 10 from by omega) (zs155 (c := c) (by omega) r26 hG (by omega)) ?_
          rintro _ _ _ ⟨r33, rfl, rfl, rfl, hr34⟩
          show wW (zK sc) zM91 53 [(5, .inl r28), (4, .inr (.inr (.inl (some (26, r26))))), (0, .inr (.inr (.inl (some (19, 0))))), (1, .inl x), (2, .inr (.inr (.inl (some (26, u9))))), (3, .inl z)] [.inl r33] _ _ _
          refine ww_go 1 (pc' := 55) (L' := [(5, .inl r28), (4, .inr (.inr (.inl (some (26, r26))))), (0, .inr (.inr (.inl (some (19, 0))))), (1, .inl x), (2, .inr (.inr (.inl (some (26, u9))))), (3, .inl z)]) (st' := [.inl r28, .inl r33]) (m' := m0) (o := none) rfl trivial ?_
          refine ww_ic (t := 61) rfl rfl (by omega) (fun (h35 : r33 ≤ r28) => ?_) (fun (h35 : ¬ (r33 ≤ r28)) => ?_)
          · show wW (zK sc) zM91 61 [(5, .inl r28), (4, .inr (.inr (.inl (some (26, r26))))), (0, .inr (.inr (.inl (some (19, 0))))), (1, .inl x), (2, .inr (.inr (.inl (some (26, u9))))), (3, .inl z)] [] _ _ _
            refine ww_go 2 (pc' := 4) (L' := [(3, .inl (z + 1)), (5, .inl r28), (4, .inr (.inr (.inl (some (26, r26))))), (0, .inr (.inr (.inl (some (19, 0))))), (1, .inl x), (2, .inr (.inr (.inl (some (26, u9)))))]) (st' := []) (m' := m0) (o := none) rfl trivial ?_
            refine ww_sub (L := [(0, .inr (.inr (.inl (some (19, 0))))), (1, .inl x), (2, .inr (.inr (.inl (some (26, u9))))), (3, .inl (z + 1))]) ⟨rfl, rfl, rfl, rfl, trivial⟩ rfl rfl ?_
            exact (ih _ (by omega)) (some (26, u9)) (z + 1) rfl (by omega) (by first | exact Or.inl rfl | exact Or.inr ⟨_, rfl, by omega⟩)
          · show wW (zK sc) zM91 58 [(5, .inl r28), (4, .inr (.inr (.inl (some (26, r26))))), (0, .inr (.inr (.inl (some (19, 0))))), (1, .inl x), (2, .inr (.inr (.inl (some (26, u9))))), (3, .inl z)] [] _ _ _
            refine ww_go 4 (pc' := 4) (L' := [(3, .inl (z + 1)), (2, .inr (.inr (.inl (some (26, r26))))), (5, .inl r28), (4, .inr (.inr (.inl (some (26, r26))))), (0, .inr (.inr (.inl (some (19, 0))))), (1, .inl x)]) (st' := []) (m' := m0) (o := none) rfl trivial ?_
            refine ww_sub (L := [(0, .inr (.inr (.inl (some (19, 0))))), (1, .inl x), (2, .inr (.inr (.inl (some (26, r26))))), (3, .inl (z + 1))]) ⟨rfl, rfl, rfl, rfl, trivial⟩ rfl rfl ?_
            exact (ih _ (by omega)) (some (26, r26)) (z + 1) rfl (by omega) (by first | exact Or.inl rfl | exact Or.inr ⟨_, rfl, by omega⟩)
set_option maxRecDepth 8000 in
/-- Receiver.letOut -/
theorem zs91 {sc : xSc} {n : Nat × Nat} {m0 : wm} {c : Int} (hc : 0 ≤ c ∧ c ≤ 990000) (x : Int) (hG : zB c m0) (h0 : 0 ≤ x ∧ x ≤ 1) : wX (zK sc) 91 [.inr (.inr (.inl (some (19, 0)))), .inl x] n m0 (wr (fun vv n1 m1 => ∃ r : Int, vv = some (.inl r) ∧ n = n1 ∧ zB (c + 1) m1 ∧ zfr (fun k i j => (k = 22) ∨ (k = 23) ∨ (k = 24) ∨ (k = 25) ∨ (k = 1 ∧ 101 ≤ i ∧ i < 171 ∧ j = 1) ∨ (k = 2 ∧ 101 ≤ i ∧ i < 171) ∨ (26 ≤ k ∧ k ≤ 33 ∧ i < 10) ∨ (k = 1 ∧ i = 2 ∧ j = 1) ∨ (k = 2 ∧ i = 2) ∨ (k = 16) ∨ (k = 17) ∨ (k = 18)) m0 m1 ∧ (0 ≤ r ∧ r ≤ 65535))) := by
  refine wX_of (N := zM91) rfl (Nat.le_of_ble_eq_true rfl) ?_
  show wW (zK sc) zM91 0 [(0, .inr (.inr (.inl (some (19, 0))))), (1, .inl x)] [] n m0 _
  have hF : zfr (fun k i j => (k = 22) ∨ (k = 23) ∨ (k = 24) ∨ (k = 25) ∨ (k = 1 ∧ 101 ≤ i ∧ i < 171 ∧ j = 1) ∨ (k = 2 ∧ 101 ≤ i ∧ i < 171) ∨ (26 ≤ k ∧ k ≤ 33 ∧ i < 10) ∨ (k = 1 ∧ i = 2 ∧ j = 1) ∨ (k = 2 ∧ i = 2) ∨ (k = 16) ∨ (k = 17) ∨ (k = 18)) m0 m0 := zfr_rf
  refine ww_go 4 (pc' := 4) (L' := [(3, .inl 0), (2, .inr (.inr (.inl none))), (0, .inr (.inr (.inl (some (19, 0))))), (1, .inl x)]) (st' := []) (m' := m0) (o := none) rfl trivial ?_
  refine ww_sub (L := [(0, .inr (.inr (.inl (some (19, 0))))), (1, .inl x), (2, .inr (.inr (.inl none))), (3, .inl 0)]) ⟨rfl, rfl, rfl, rfl, trivial⟩ rfl rfl ?_
  exact (zs91_l4 hc x hG h0 _) none 0 rfl (by omega) (by first | exact Or.inl rfl | exact Or.inr ⟨_, rfl, by omega⟩)
set_option maxRecDepth 8000 in
theorem zs103_l122 {sc : xSc} {n : Nat × Nat} {m0 : wm} {c : Int} (hc : 0 ≤ c ∧ c ≤ 1000000) (s : Nat) (hG : zB c m0) (h0 : s < 101) : ∀ (d : Nat), ∀ (y : Int) (b : Int) (w : Int) (m : wm), 0 = d → zB c m → zfr (fun k i j => (k = 22) ∨ (k = 23) ∨ (k = 24) ∨ (k = 25) ∨ (k = 1 ∧ 101 ≤ i ∧ i < 171 ∧ j = 1) ∨ (k = 2 ∧ 101 ≤ i ∧ i < 171) ∨ (26 ≤ k ∧ k ≤ 33 ∧ i < 10) ∨ (k = 19)) m0 m → (0 ≤ y ∧ y ≤ 6 ∧ 0 ≤ b ∧ b ≤ 1 ∧ 0 ≤ w ∧ w ≤ 131071 ∧ zBat m s 1 ≤ 1 ∧ zBat m s 4 ≤ 6 ∧ zBat m s 5 ≤ 1) →  wW (zK sc) zM103 122 [(0, .inr (.inr (.inl (some (19, 0))))), (1, .inr (.inr (.inl (some (1, s))))), (5, .inl y), (6, .inl b), (7, .inl w)] [] n m (wr (fun vv n1 m1 => ∃ r : Int, vv = some (.inl r) ∧ n = n1 ∧ zB c m1 ∧ zfr (fun k i j => (k = 22) ∨ (k = 23) ∨ (k = 24) ∨ (k = 25) ∨ (k = 1 ∧ 101 ≤ i ∧ i < 171 ∧ j = 1) ∨ (k = 2 ∧ 101 ≤ i ∧ i < 171) ∨ (26 ≤ k ∧ k ≤ 33 ∧ i < 10) ∨ (k = 19)) m0 m1 ∧ (0 ≤ r ∧ r ≤ 6 ∧ (r = 0 → zBat m1 s 1 ≤ 1 ∧ zBat m1 s 4 ≤ 6 ∧ zBat m1 s 5 ≤ 1)))) := by
  intro d
  induction d using Nat.strongRecOn with
  | ind d ih =>
    intro y b w m hd hGm hFm hi
    refine ww_go 5 (pc' := 132) (L' := [(0, .inr (.inr (.inl (some (19, 0))))), (1, .inr (.inr (.inl (some (1, s))))), (5, .inl y), (6, .inl b), (7, .inl w)]) (st' := [.inl b, .inl y, .inl w, .inr (.inr (.inl (some (22, 0))))]) (m' := m) (o := some ((0 < 1))) rfl (show (0 < 1) from by omega) ?_
    refine ww_call (vs := [.inl w, .inl y, .inl b]) (r := [.inr (.inr (.inl (some (22, 0))))]) (p := True) rfl rfl rfl rfl trivial (zs111 w y b (by omega)) ?_
    rintro _ _ _ ⟨r1, rfl, rfl, rfl, hr2⟩
    show wW (zK sc) zM103 135 [(0, .inr (.inr (.inl (some (19, 0))))), (1, .inr (.inr (.inl (some (1, s))))), (5, .inl y), (6, .inl b), (7, .inl w)] [.inl r1, .inr (.inr (.inl (some (22, 0))))] _ _ _
    refine ww_go 1 (pc' := 136) (L' := [(0, .inr (.inr (.inl (some (19, 0))))), (1, .inr (.inr (.inl (some (1, s))))), (5, .inl y), (6, .inl b), (7, .inl w)]) (st' := [.inr (.inr (.inl (some (1, s)))), .inl r1, .inr (.inr (.inl (some (22, 0))))]) (m' := m) (o := none) rfl trivial ?_
    refine ww_call (vs := [.inr (.inr (.inl (some (1, s))))]) (r := [.inl r1, .inr (.inr (.inl (some (22, 0))))]) (p := True) rfl rfl rfl rfl trivial (zs97 (c := c) (by omega) s hGm (by omega)) ?_
    rintro _ _ _ ⟨r3, rfl, rfl, rfl, hr4⟩
    show wW (zK sc) zM103 139 [(0, .inr (.inr (.inl (some (19, 0))))), (1, .inr (.inr (.inl (some (1, s))))), (5, .inl y), (6, .inl b), (7, .inl w)] [.inl r3, .inl r1, .inr (.inr (.inl (some (22, 0))))] _ _ _
    refine ww_call (vs := [.inr (.inr (.inl (some (22, 0)))), .inl r1, .inl r3]) (r := []) (p := 0 < 1) rfl rfl rfl rfl (show 0 < 1 from by omega) (zs117 (c := c) (by omega) r1 r3 hGm (by omega)) ?_
    rintro _ _ _ ⟨r5, rfl, rfl, rfl, hr6⟩
    show wW (zK sc) zM103 142 [(0, .inr (.inr (.inl (some (19, 0))))), (1, .inr (.inr (.inl (some (1, s))))), (5, .inl y), (6, .inl b), (7, .inl w)] [.inl r5] _ _ _
    refine ww_if (t := 147) rfl rfl (by omega) (fun (h7 : r5 = 0) => ?_) (fun (h7 : ¬ (r5 = 0)) => ?_)
    · show wW (zK sc) zM103 147 [(0, .inr (.inr (.inl (some (19, 0))))), (1, .inr (.inr (.inl (some (1, s))))), (5, .inl y), (6, .inl b), (7, .inl w)] [] _ _ _
      refine ww_go 2 (pc' := 151) (L' := [(0, .inr (.inr (.inl (some (19, 0))))), (1, .inr (.inr (.inl (some (1, s))))), (5, .inl y), (6, .inl b), (7, .inl w)]) (st' := [.inr (.inr (.inl (some (22, 0))))]) (m' := m) (o := some ((0 < 1))) rfl (show (0 < 1) from by omega) ?_
      refine ww_call (vs := [.inr (.inr (.inl (some (22, 0))))]) (r := []) (p := 0 < 1) rfl rfl rfl rfl (show 0 < 1 from by omega) (zs110 (c := c) (by omega) hGm) ?_
      rintro _ _ _ ⟨r8, rfl, rfl, rfl, hr9⟩
      show wW (zK sc) zM103 154 [(0, .inr (.inr (.inl (some (19, 0))))), (1, .inr (.inr (.inl (some (1, s))))), (5, .inl y), (6, .inl b), (7, .inl w)] [.inl r8] _ _ _
      refine ww_if (t := 169) rfl rfl (by omega) (fun (h10 : r8 = 0) => ?_) (fun (h10 : ¬ (r8 = 0)) => ?_)
      · show wW (zK sc) zM103 169 [(0, .inr (.inr (.inl (some (19, 0))))), (1, .inr (.inr (.inl (some (1, s))))), (5, .inl y), (6, .inl b), (7, .inl w)] [] _ _ _
        refine ww_go 1 (pc' := 170) (L' := [(0, .inr (.inr (.inl (some (19, 0))))), (1, .inr (.inr (.inl (some (1, s))))), (5, .inl y), (6, .inl b), (7, .inl w)]) (st' := [.inl 0]) (m' := m) (o := none) rfl trivial ?_
        exact ww_rI rfl rfl ⟨_, rfl, rfl, zB_mono hGm (by omega), hFm, by omega⟩
      · show wW (zK sc) zM103 157 [(0, .inr (.inr (.inl (some (19, 0))))), (1, .inr (.inr (.inl (some (1, s))))), (5, .inl y), (6, .inl b), (7, .inl w)] [] _ _ _
        refine ww_go 1 (pc' := 158) (L' := [(0, .inr (.inr (.inl (some (19, 0))))), (1, .inr (.inr (.inl (some (1, s))))), (5, .inl y), (6, .inl b), (7, .inl w)]) (st' := [.inr (.inr (.inl (some (19, 0))))]) (m' := m) (o := none) rfl trivial ?_
        refine ww_call (vs := [.inr (.inr (.inl (some (19, 0))))]) (r := []) (p := 0 < 1) rfl rfl rfl rfl (show 0 < 1 from by omega) (zs96 (c := c) (by omega) hGm) ?_
        rintro _ _ m13 ⟨r11, rfl, rfl, hGm13, hEm13, hr12⟩
        have hFm13 : zfr (fun k i j => (k = 22) ∨ (k = 23) ∨ (k = 24) ∨ (k = 25) ∨ (k = 1 ∧ 101 ≤ i ∧ i < 171 ∧ j = 1) ∨ (k = 2 ∧ 101 ≤ i ∧ i < 171) ∨ (26 ≤ k ∧ k ≤ 33 ∧ i < 10) ∨ (k = 19)) m0 m13 := zfr_tr hFm hEm13 (fun k i j z => Or.elim z (fun z => Or.inl z) (fun z => Or.elim z (fun z => Or.inr (Or.inl z)) (fun z => Or.elim z (fun z => Or.inr (Or.inr (Or.inl z))) (fun z => Or.inr (Or.inr (Or.inr (Or.inl z)))))))
        show wW (zK sc) zM103 161 [(0, .inr (.inr (.inl (some (19, 0))))), (1, .inr (.inr (.inl (some (1, s))))), (5, .inl y), (6, .inl b), (7, .inl w)] [.inl r11] _ _ _
        have w14 : zBat m13 s 1 = zBat m s 1 := zBat_fr 1 hEm13 (show ¬ ((1 = 22) ∨ (1 = 23) ∨ (1 = 24) ∨ (1 = 25)) from by omega) (fun j => (show ¬ ((2 = 22) ∨ (2 = 23) ∨ (2 = 24) ∨ (2 = 25)) from by omega))
        have w15 : zBat m13 s 2 = zBat m s 2 := zBat_fr 2 hEm13 (show ¬ ((1 = 22) ∨ (1 = 23) ∨ (1 = 24) ∨ (1 = 25)) from by omega) (fun j => (show ¬ ((2 = 22) ∨ (2 = 23) ∨ (2 = 24) ∨ (2 = 25)) from by omega))
        have w16 : zBat m13 s 3 = zBat m s 3 := zBat_fr 3 hEm13 (show ¬ ((1 = 22) ∨ (1 = 23) ∨ (1 = 24) ∨ (1 = 25)) from by omega) (fun j => (show ¬ ((2 = 22) ∨ (2 = 23) ∨ (2 = 24) ∨ (2 = 25)) from by omega))
        have w17 : zBat m13 s 4 = zBat m s 4 := zBat_fr 4 hEm13 (show ¬ ((1 = 22) ∨ (1 = 23) ∨ (1 = 24) ∨ (1 = 25)) from by omega) (fun j => (show ¬ ((2 = 22) ∨ (2 = 23) ∨ (2 = 24) ∨ (2 = 25)) from by omega))
        have w18 : zBat m13 s 5 = zBat m s 5 := zBat_fr 5 hEm13 (show ¬ ((1 = 22) ∨ (1 = 23) ∨ (1 = 24) ∨ (1 = 25)) from by omega) (fun j => (show ¬ ((2 = 22) ∨ (2 = 23) ∨ (2 = 24) ∨ (2 = 25)) from by omega))
        have w19 : zBat m13 s 7 = zBat m s 7 := zBat_fr 7 hEm13 (show ¬ ((1 = 22) ∨ (1 = 23) ∨ (1 = 24) ∨ (1 = 25)) from by omega) (fun j => (show ¬ ((2 = 22) ∨ (2 = 23) ∨ (2 = 24) ∨ (2 = 25)) from by omega))
        refine ww_if (t := 169) rfl rfl (by omega) (fun (h20 : r11 ≠ 0) => ?_) (fun (h20 : ¬ (r11 ≠ 0)) => ?_)
        · show wW (zK sc) zM103 169 [(0, .inr (.inr (.inl (some (19, 0))))), (1, .inr (.inr (.inl (some (1, s))))), (5, .inl y), (6, .inl b), (7, .inl w)] [] _ _ _
          refine ww_go 1 (pc' := 170) (L' := [(0, .inr (.inr (.inl (some (19, 0))))), (1, .inr (.inr (.inl (some (1, s))))), (5, .inl y), (6, .inl b), (7, .inl w)]) (st' := [.inl 0]) (m' := m13) (o := none) rfl trivial ?_
          exact ww_rI rfl rfl ⟨_, rfl, rfl, zB_mono hGm13 (by omega), hFm13, by omega⟩
        · show wW (zK sc) zM103 164 [(0, .inr (.inr (.inl (some (19, 0))))), (1, .inr (.inr (.inl (some (1, s))))), (5, .inl y), (6, .inl b), (7, .inl w)] [] _ _ _
          refine ww_go 2 (pc' := 170) (L' := [(0, .inr (.inr (.inl (some (19, 0))))), (1, .inr (.inr (.inl (some (1, s))))), (5, .inl y), (6, .inl b), (7, .inl w)]) (st' := [.inl 6]) (m' := m13) (o := none) rfl trivial ?_
          exact ww_rI rfl rfl ⟨_, rfl, rfl, zB_mono hGm13 (by omega), hFm13, by omega⟩
    · show wW (zK sc) zM103 145 [(0, .inr (.inr (.inl (some (19, 0))))), (1, .inr (.inr (.inl (some (1, s))))), (5, .inl y), (6, .inl b), (7, .inl w)] [] _ _ _
      refine ww_go 1 (pc' := 146) (L' := [(0, .inr (.inr (.inl (some (19, 0))))), (1, .inr (.inr (.inl (some (1, s))))), (5, .inl y), (6, .inl b), (7, .inl w)]) (st' := [.inl 5]) (m' := m) (o := none) rfl trivial ?_
      exact ww_rI rfl rfl ⟨_, rfl, rfl, zB_mono hGm (by omega), hFm, by omega⟩
set_option maxRecDepth 8000 in
theorem zs103_l75 {sc : xSc} {n : Nat × Nat} {m0 : wm} {c : Int} (hc : 0 ≤ c ∧ c ≤ 1000000) (s : Nat) (hG : zB c m0) (h0 : s < 101) : ∀ (d : Nat), ∀ (x : Int) (y : Int) (u : Nat) (m : wm), 0 = d → zB c m → zfr (fun k i j => (k = 22) ∨ (k = 23) ∨ (k = 24) ∨ (k = 25) ∨ (k = 1 ∧ 101 ≤ i ∧ i < 171 ∧ j = 1) ∨ (k = 2 ∧ 101 ≤ i ∧ i < 171) ∨ (26 ≤ k ∧ k ≤ 33 ∧ i < 10) ∨ (k = 19)) m0 m → (0 ≤ x ∧ x ≤ 1 ∧ 1 ≤ y ∧ y ≤ 65535 ∧ u < 8 ∧ zBat m s 1 ≤ 1 ∧ zBat m s 4 ≤ 6 ∧ zBat m s 5 ≤ 1) →  wW (zK sc) zM103 75 [(0, .inr (.inr (.inl (some (19, 0))))), (1, .inr (.inr (.inl (some (1, s))))), (2, .inl x), (3, .inl y), (4, .inr (.inr (.inl (some (26, u)))))] [] n m (wr (fun vv n1 m1 => ∃ r : Int, vv = some (.inl r) ∧ n = n1 ∧ zB c m1 ∧ zfr (fun k i j => (k = 22) ∨ (k = 23) ∨ (k = 24) ∨ (k = 25) ∨ (k = 1 ∧ 101 ≤ i ∧ i < 171 ∧ j = 1) ∨ (k = 2 ∧ 101 ≤ i ∧ i < 171) ∨ (26 ≤ k ∧ k ≤ 33 ∧ i < 10) ∨ (k = 19)) m0 m1 ∧ (0 ≤ r ∧ r ≤ 6 ∧ (r = 0 → zBat m1 s 1 ≤ 1 ∧ zBat m1 s 4 ≤ 6 ∧ zBat m1 s 5 ≤ 1)))) := by
  intro d
  induction d using Nat.strongRecOn with
  | ind d ih =>
    intro x y u m hd hGm hFm hi
    have zs1 := zBat_rg hGm s 1
    have zs4 := zBat_rg hGm s 4
    have zs5 := zBat_rg hGm s 5
    refine ww_go 2 (pc' := 77) (L' := [(0, .inr (.inr (.inl (some (19, 0))))), (1, .inr (.inr (.inl (some (1, s))))), (2, .inl x), (3, .inl y), (4, .inr (.inr (.inl (some (26, u)))))]) (st' := [.inl 4, .inr (.inr (.inl (some (1, s))))]) (m' := m) (o := none) rfl trivial ?_
    refine ww_call (vs := [.inr (.inr (.inl (some (1, s)))), .inl 4]) (r := []) (p := s < 171) rfl rfl rfl rfl (show s < 171 from by omega) (zs28 (c := c) (by omega) 4 s hGm (by omega)) ?_
    rintro _ _ _ ⟨r1, rfl, rfl, rfl, hr2⟩
    show wW (zK sc) zM103 80 [(0, .inr (.inr (.inl (some (19, 0))))), (1, .inr (.inr (.inl (some (1, s))))), (2, .inl x), (3, .inl y), (4, .inr (.inr (.inl (some (26, u)))))] [.inl r1] _ _ _
    refine ww_go 3 (pc' := 84) (L' := [(5, .inl r1), (0, .inr (.inr (.inl (some (19, 0))))), (1, .inr (.inr (.inl (some (1, s))))), (2, .inl x), (3, .inl y), (4, .inr (.inr (.inl (some (26, u)))))]) (st' := [.inl 5, .inr (.inr (.inl (some (1, s))))]) (m' := m) (o := none) rfl trivial ?_
    refine ww_call (vs := [.inr (.inr (.inl (some (1, s)))), .inl 5]) (r := []) (p := s < 171) rfl rfl rfl rfl (show s < 171 from by omega) (zs28 (c := c) (by omega) 5 s hGm (by omega)) ?_
    rintro _ _ _ ⟨r3, rfl, rfl, rfl, hr4⟩
    show wW (zK sc) zM103 87 [(5, .inl r1), (0, .inr (.inr (.inl (some (19, 0))))), (1, .inr (.inr (.inl (some (1, s))))), (2, .inl x), (3, .inl y), (4, .inr (.inr (.inl (some (26, u)))))] [.inl r3] _ _ _
    refine ww_go 3 (pc' := 91) (L' := [(6, .inl r3), (5, .inl r1), (0, .inr (.inr (.inl (some (19, 0))))), (1, .inr (.inr (.inl (some (1, s))))), (2, .inl x), (3, .inl y), (4, .inr (.inr (.inl (some (26, u)))))]) (st' := [.inl y, .inl x]) (m' := m) (o := none) rfl trivial ?_
    refine ww_call (vs := [.inl x, .inl y]) (r := []) (p := True) rfl rfl rfl rfl trivial (zs113 x y (by omega)) ?_
    rintro _ _ _ ⟨r5, rfl, rfl, rfl, hr6⟩
    show wW (zK sc) zM103 94 [(6, .inl r3), (5, .inl r1), (0, .inr (.inr (.inl (some (19, 0))))), (1, .inr (.inr (.inl (some (1, s))))), (2, .inl x), (3, .inl y), (4, .inr (.inr (.inl (some (26, u)))))] [.inl r5] _ _ _
    refine ww_go 5 (pc' := 102) (L' := [(7, .inl r5), (6, .inl r3), (5, .inl r1), (0, .inr (.inr (.inl (some (19, 0))))), (1, .inr (.inr (.inl (some (1, s))))), (2, .inl x), (3, .inl y), (4, .inr (.inr (.inl (some (26, u)))))]) (st' := [.inr (.inr (.inl (some (1, s)))), .inl r5, .inr (.inr (.inl (some (26, u)))), .inr (.inr (.inl (some (19, 0))))]) (m' := m) (o := none) rfl trivial ?_
    refine ww_call (vs := [.inr (.inr (.inl (some (19, 0)))), .inr (.inr (.inl (some (26, u)))), .inl r5, .inr (.inr (.inl (some (1, s))))]) (r := []) (p := 0 < 1) rfl rfl rfl rfl (show 0 < 1 from by omega) (zs82 (c := c) (by omega) r5 u s hGm (by omega)) ?_
    rintro _ _ _ ⟨r7, rfl, rfl, rfl, hr8⟩
    show wW (zK sc) zM103 105 [(7, .inl r5), (6, .inl r3), (5, .inl r1), (0, .inr (.inr (.inl (some (19, 0))))), (1, .inr (.inr (.inl (some (1, s))))), (2, .inl x), (3, .inl y), (4, .inr (.inr (.inl (some (26, u)))))] [.inl r7] _ _ _
    refine ww_if (t := 120) rfl rfl (by omega) (fun (h9 : r7 ≠ 0) => ?_) (fun (h9 : ¬ (r7 ≠ 0)) => ?_)
    · show wW (zK sc) zM103 120 [(7, .inl r5), (6, .inl r3), (5, .inl r1), (0, .inr (.inr (.inl (some (19, 0))))), (1, .inr (.inr (.inl (some (1, s))))), (2, .inl x), (3, .inl y), (4, .inr (.inr (.inl (some (26, u)))))] [] _ _ _
      refine ww_go 1 (pc' := 121) (L' := [(7, .inl r5), (6, .inl r3), (5, .inl r1), (0, .inr (.inr (.inl (some (19, 0))))), (1, .inr (.inr (.inl (some (1, s))))), (2, .inl x), (3, .inl y), (4, .inr (.inr (.inl (some (26, u)))))]) (st' := [.inl 4]) (m' := m) (o := none) rfl trivial ?_
      exact ww_rI rfl rfl ⟨_, rfl, rfl, zB_mono hGm (by omega), hFm, by omega⟩
    · show wW (zK sc) zM103 108 [(7, .inl r5), (6, .inl r3), (5, .inl r1), (0, .inr (.inr (.inl (some (19, 0))))), (1, .inr (.inr (.inl (some (1, s))))), (2, .inl x), (3, .inl y), (4, .inr (.inr (.inl (some (26, u)))))] [] _ _ _
      refine ww_go 3 (pc' := 114) (L' := [(7, .inl r5), (6, .inl r3), (5, .inl r1), (0, .inr (.inr (.inl (some (19, 0))))), (1, .inr (.inr (.inl (some (1, s))))), (2, .inl x), (3, .inl y), (4, .inr (.inr (.inl (some (26, u)))))]) (st' := [.inl r3, .inl r1, .inr (.inr (.inl (some (26, u))))]) (m' := m) (o := none) rfl trivial ?_
      refine ww_call (vs := [.inr (.inr (.inl (some (26, u)))), .inl r1, .inl r3]) (r := []) (p := u < 10) rfl rfl rfl rfl (show u < 10 from by omega) (zs150 (c := c) (by omega) r1 r3 u hGm (by omega)) ?_
      rintro _ _ _ ⟨r10, rfl, rfl, rfl, hr11⟩
      show wW (zK sc) zM103 117 [(7, .inl r5), (6, .inl r3), (5, .inl r1), (0, .inr (.inr (.inl (some (19, 0))))), (1, .inr (.inr (.inl (some (1, s))))), (2, .inl x), (3, .inl y), (4, .inr (.inr (.inl (some (26, u)))))] [.inl r10] _ _ _
      refine ww_if (t := 122) rfl rfl (by omega) (fun (h12 : r10 = 0) => ?_) (fun (h12 : ¬ (r10 = 0)) => ?_)
      · show wW (zK sc) zM103 122 [(7, .inl r5), (6, .inl r3), (5, .inl r1), (0, .inr (.inr (.inl (some (19, 0))))), (1, .inr (.inr (.inl (some (1, s))))), (2, .inl x), (3, .inl y), (4, .inr (.inr (.inl (some (26, u)))))] [] _ _ _
        refine ww_sub (L := [(0, .inr (.inr (.inl (some (19, 0))))), (1, .inr (.inr (.inl (some (1, s))))), (5, .inl r1), (6, .inl r3), (7, .inl r5)]) ⟨rfl, rfl, rfl, rfl, rfl, trivial⟩ rfl rfl ?_
        exact (zs103_l122 hc s hG h0 _) r1 r3 r5 m rfl (zB_mono hGm (by omega)) hFm (by omega)
      · show wW (zK sc) zM103 120 [(7, .inl r5), (6, .inl r3), (5, .inl r1), (0, .inr (.inr (.inl (some (19, 0))))), (1, .inr (.inr (.inl (some (1, s))))), (2, .inl x), (3, .inl y), (4, .inr (.inr (.inl (some (26, u)))))] [] _ _ _
        refine ww_go 1 (pc' := 121) (L' := [(7, .inl r5), (6, .inl r3), (5, .inl r1), (0, .inr (.inr (.inl (some (19, 0))))), (1, .inr (.inr (.inl (some (1, s))))), (2, .inl x), (3, .inl y), (4, .inr (.inr (.inl (some (26, u)))))]) (st' := [.inl 4]) (m' := m) (o := none) rfl trivial ?_
        exact ww_rI rfl rfl ⟨_, rfl, rfl, zB_mono hGm (by omega), hFm, by omega⟩
set_option maxRecDepth 8000 in
theorem zs103_l43 {sc : xSc} {n : Nat × Nat} {m0 : wm} {c : Int} (hc : 0 ≤ c ∧ c ≤ 1000000) (s : Nat) (hG : zB c m0) (h0 : s < 101) : ∀ (d : Nat), ∀  (m : wm), 0 = d → zB c m → zfr (fun k i j => (k = 22) ∨ (k = 23) ∨ (k = 24) ∨ (k = 25) ∨ (k = 1 ∧ 101 ≤ i ∧ i < 171 ∧ j = 1) ∨ (k = 2 ∧ 101 ≤ i ∧ i < 171) ∨ (26 ≤ k ∧ k ≤ 33 ∧ i < 10) ∨ (k = 19)) m0 m →  wW (zK sc) zM103 43 [(0, .inr (.inr (.inl (some (19, 0))))), (1, .inr (.inr (.inl (some (1, s)))))] [] n m (wr (fun vv n1 m1 => ∃ r : Int, vv = some (.inl r) ∧ n = n1 ∧ zB c m1 ∧ zfr (fun k i j => (k = 22) ∨ (k = 23) ∨ (k = 24) ∨ (k = 25) ∨ (k = 1 ∧ 101 ≤ i ∧ i < 171 ∧ j = 1) ∨ (k = 2 ∧ 101 ≤ i ∧ i < 171) ∨ (26 ≤ k ∧ k ≤ 33 ∧ i < 10) ∨ (k = 19)) m0 m1 ∧ (0 ≤ r ∧ r ≤ 6 ∧ (r = 0 → zBat m1 s 1 ≤ 1 ∧ zBat m1 s 4 ≤ 6 ∧ zBat m1 s 5 ≤ 1)))) := by
  intro d
  induction d using Nat.strongRecOn with
  | ind d ih =>
    intro  m hd hGm hFm 
    have zs1 := zBat_rg hGm s 1
    have zs2 := zBat_rg hGm s 2
    have zs3 := zBat_rg hGm s 3
    have zs4 := zBat_rg hGm s 4
    have zs5 := zBat_rg hGm s 5
    have zs6 := zBat_rg hGm s 6
    have zs7 := zBat_rg hGm s 7
    refine ww_go 2 (pc' := 45) (L' := [(0, .inr (.inr (.inl (some (19, 0))))), (1, .inr (.inr (.inl (some (1, s)))))]) (st' := [.inr (.inr (.inl (some (1, s)))), .inr (.inr (.inl (some (19, 0))))]) (m' := m) (o := none) rfl trivial ?_
    refine ww_call (vs := [.inr (.inr (.inl (some (19, 0)))), .inr (.inr (.inl (some (1, s))))]) (r := []) (p := 0 < 1) rfl rfl rfl rfl (show 0 < 1 from by omega) (zs76 (c := c) (by omega) s hGm (by omega)) ?_
    rintro _ _ _ ⟨r1, rfl, rfl, rfl, hr2⟩
    show wW (zK sc) zM103 48 [(0, .inr (.inr (.inl (some (19, 0))))), (1, .inr (.inr (.inl (some (1, s)))))] [.inl r1] _ _ _
    refine ww_if (t := 53) rfl rfl (by omega) (fun (h3 : r1 ≠ 0) => ?_) (fun (h3 : ¬ (r1 ≠ 0)) => ?_)
    · show wW (zK sc) zM103 53 [(0, .inr (.inr (.inl (some (19, 0))))), (1, .inr (.inr (.inl (some (1, s)))))] [] _ _ _
      refine ww_go 2 (pc' := 55) (L' := [(0, .inr (.inr (.inl (some (19, 0))))), (1, .inr (.inr (.inl (some (1, s)))))]) (st' := [.inl 1, .inr (.inr (.inl (some (1, s))))]) (m' := m) (o := none) rfl trivial ?_
      refine ww_call (vs := [.inr (.inr (.inl (some (1, s)))), .inl 1]) (r := []) (p := s < 171) rfl rfl rfl rfl (show s < 171 from by omega) (zs28 (c := c) (by omega) 1 s hGm (by omega)) ?_
      rintro _ _ _ ⟨r4, rfl, rfl, rfl, hr5⟩
      show wW (zK sc) zM103 58 [(0, .inr (.inr (.inl (some (19, 0))))), (1, .inr (.inr (.inl (some (1, s)))))] [.inl r4] _ _ _
      refine ww_go 4 (pc' := 62) (L' := [(2, .inl r4), (0, .inr (.inr (.inl (some (19, 0))))), (1, .inr (.inr (.inl (some (1, s)))))]) (st' := [.inl 2, .inl 2, .inr (.inr (.inl (some (1, s))))]) (m' := m) (o := none) rfl trivial ?_
      refine ww_call (vs := [.inr (.inr (.inl (some (1, s)))), .inl 2, .inl 2]) (r := []) (p := s < 171) rfl rfl rfl rfl (show s < 171 from by omega) (zs36 (c := c) (by omega) 2 2 s hGm (by omega)) ?_
      rintro _ _ _ ⟨r6, rfl, rfl, rfl, hr7⟩
      have z8 := (hr7).1 rfl
      rw [show (2 : Int) + 1 = 3 from rfl] at z8
      show wW (zK sc) zM103 65 [(2, .inl r4), (0, .inr (.inr (.inl (some (19, 0))))), (1, .inr (.inr (.inl (some (1, s)))))] [.inr (.inl r6)] _ _ _
      have t9 := wl2i_rg r6
      refine ww_go 5 (pc' := 70) (L' := [(3, .inl (wl2i r6)), (2, .inl r4), (0, .inr (.inr (.inl (some (19, 0))))), (1, .inr (.inr (.inl (some (1, s)))))]) (st' := [.inl (wl2i r6), .inl r4, .inr (.inr (.inl (some (19, 0))))]) (m' := m) (o := none) rfl trivial ?_
      refine ww_call (vs := [.inr (.inr (.inl (some (19, 0)))), .inl r4, .inl (wl2i r6)]) (r := []) (p := 0 < 1) rfl rfl rfl rfl (show 0 < 1 from by omega) (zs88 (c := c) (by omega) r4 (wl2i r6) hGm (by omega)) ?_
      rintro _ _ m12 ⟨r10, rfl, rfl, hGm12, hEm12, hr11⟩
      have hFm12 : zfr (fun k i j => (k = 22) ∨ (k = 23) ∨ (k = 24) ∨ (k = 25) ∨ (k = 1 ∧ 101 ≤ i ∧ i < 171 ∧ j = 1) ∨ (k = 2 ∧ 101 ≤ i ∧ i < 171) ∨ (26 ≤ k ∧ k ≤ 33 ∧ i < 10) ∨ (k = 19)) m0 m12 := zfr_tr hFm hEm12 (fun k i j z => Or.elim z (fun z => Or.inl z) (fun z => Or.elim z (fun z => Or.inr (Or.inl z)) (fun z => Or.elim z (fun z => Or.inr (Or.inr (Or.inl z))) (fun z => Or.elim z (fun z => Or.inr (Or.inr (Or.inr (Or.inl z)))) (fun z => Or.elim z (fun z => (show (k = 22) ∨ (k = 23) ∨ (k = 24) ∨ (k = 25) ∨ (k = 1 ∧ 101 ≤ i ∧ i < 171 ∧ j = 1) ∨ (k = 2 ∧ 101 ≤ i ∧ i < 171) ∨ (26 ≤ k ∧ k ≤ 33 ∧ i < 10) ∨ (k = 19) from by omega)) (fun z => Or.elim z (fun z => (show (k = 22) ∨ (k = 23) ∨ (k = 24) ∨ (k = 25) ∨ (k = 1 ∧ 101 ≤ i ∧ i < 171 ∧ j = 1) ∨ (k = 2 ∧ 101 ≤ i ∧ i < 171) ∨ (26 ≤ k ∧ k ≤ 33 ∧ i < 10) ∨ (k = 19) from by omega)) (fun z => Or.elim z (fun z => (show (k = 22) ∨ (k = 23) ∨ (k = 24) ∨ (k = 25) ∨ (k = 1 ∧ 101 ≤ i ∧ i < 171 ∧ j = 1) ∨ (k = 2 ∧ 101 ≤ i ∧ i < 171) ∨ (26 ≤ k ∧ k ≤ 33 ∧ i < 10) ∨ (k = 19) from by omega)) (fun z => Or.inr (Or.inr (Or.inr (Or.inr (Or.inl z))))))))))))
      show wW (zK sc) zM103 73 [(3, .inl (wl2i r6)), (2, .inl r4), (0, .inr (.inr (.inl (some (19, 0))))), (1, .inr (.inr (.inl (some (1, s)))))] [.inr (.inr (.inl (some (26, r10))))] _ _ _
      have w13 : zBat m12 s 1 = zBat m s 1 := zBat_fr 1 hEm12 (show ¬ ((1 = 22) ∨ (1 = 23) ∨ (1 = 24) ∨ (1 = 25) ∨ (1 = 26 ∧ s < 10) ∨ (1 = 28 ∧ s < 10) ∨ (1 = 29 ∧ s < 10) ∨ (1 = 1 ∧ 101 ≤ s ∧ s < 171 ∧ 1 = 1)) from by omega) (fun j => (show ¬ ((2 = 22) ∨ (2 = 23) ∨ (2 = 24) ∨ (2 = 25) ∨ (2 = 26 ∧ s < 10) ∨ (2 = 28 ∧ s < 10) ∨ (2 = 29 ∧ s < 10) ∨ (2 = 1 ∧ 101 ≤ s ∧ s < 171 ∧ j = 1)) from by omega))
      have w14 : zBat m12 s 2 = zBat m s 2 := zBat_fr 2 hEm12 (show ¬ ((1 = 22) ∨ (1 = 23) ∨ (1 = 24) ∨ (1 = 25) ∨ (1 = 26 ∧ s < 10) ∨ (1 = 28 ∧ s < 10) ∨ (1 = 29 ∧ s < 10) ∨ (1 = 1 ∧ 101 ≤ s ∧ s < 171 ∧ 1 = 1)) from by omega) (fun j => (show ¬ ((2 = 22) ∨ (2 = 23) ∨ (2 = 24) ∨ (2 = 25) ∨ (2 = 26 ∧ s < 10) ∨ (2 = 28 ∧ s < 10) ∨ (2 = 29 ∧ s < 10) ∨ (2 = 1 ∧ 101 ≤ s ∧ s < 171 ∧ j = 1)) from by omega))
      have w15 : zBat m12 s 3 = zBat m s 3 := zBat_fr 3 hEm12 (show ¬ ((1 = 22) ∨ (1 = 23) ∨ (1 = 24) ∨ (1 = 25) ∨ (1 = 26 ∧ s < 10) ∨ (1 = 28 ∧ s < 10) ∨ (1 = 29 ∧ s < 10) ∨ (1 = 1 ∧ 101 ≤ s ∧ s < 171 ∧ 1 = 1)) from by omega) (fun j => (show ¬ ((2 = 22) ∨ (2 = 23) ∨ (2 = 24) ∨ (2 = 25) ∨ (2 = 26 ∧ s < 10) ∨ (2 = 28 ∧ s < 10) ∨ (2 = 29 ∧ s < 10) ∨ (2 = 1 ∧ 101 ≤ s ∧ s < 171 ∧ j = 1)) from by omega))
      have w16 : zBat m12 s 4 = zBat m s 4 := zBat_fr 4 hEm12 (show ¬ ((1 = 22) ∨ (1 = 23) ∨ (1 = 24) ∨ (1 = 25) ∨ (1 = 26 ∧ s < 10) ∨ (1 = 28 ∧ s < 10) ∨ (1 = 29 ∧ s < 10) ∨ (1 = 1 ∧ 101 ≤ s ∧ s < 171 ∧ 1 = 1)) from by omega) (fun j => (show ¬ ((2 = 22) ∨ (2 = 23) ∨ (2 = 24) ∨ (2 = 25) ∨ (2 = 26 ∧ s < 10) ∨ (2 = 28 ∧ s < 10) ∨ (2 = 29 ∧ s < 10) ∨ (2 = 1 ∧ 101 ≤ s ∧ s < 171 ∧ j = 1)) from by omega))
      have w17 : zBat m12 s 5 = zBat m s 5 := zBat_fr 5 hEm12 (show ¬ ((1 = 22) ∨ (1 = 23) ∨ (1 = 24) ∨ (1 = 25) ∨ (1 = 26 ∧ s < 10) ∨ (1 = 28 ∧ s < 10) ∨ (1 = 29 ∧ s < 10) ∨ (1 = 1 ∧ 101 ≤ s ∧ s < 171 ∧ 1 = 1)) from by omega) (fun j => (show ¬ ((2 = 22) ∨ (2 = 23) ∨ (2 = 24) ∨ (2 = 25) ∨ (2 = 26 ∧ s < 10) ∨ (2 = 28 ∧ s < 10) ∨ (2 = 29 ∧ s < 10) ∨ (2 = 1 ∧ 101 ≤ s ∧ s < 171 ∧ j = 1)) from by omega))
      have w18 : zBat m12 s 7 = zBat m s 7 := zBat_fr 7 hEm12 (show ¬ ((1 = 22) ∨ (1 = 23) ∨ (1 = 24) ∨ (1 = 25) ∨ (1 = 26 ∧ s < 10) ∨ (1 = 28 ∧ s < 10) ∨ (1 = 29 ∧ s < 10) ∨ (1 = 1 ∧ 101 ≤ s ∧ s < 171 ∧ 1 = 1)) from by omega) (fun j => (show ¬ ((2 = 22) ∨ (2 = 23) ∨ (2 = 24) ∨ (2 = 25) ∨ (2 = 26 ∧ s < 10) ∨ (2 = 28 ∧ s < 10) ∨ (2 = 29 ∧ s < 10) ∨ (2 = 1 ∧ 101 ≤ s ∧ s < 171 ∧ j = 1)) from by omega))
      refine ww_go 1 (pc' := 75) (L' := [(4, .inr (.inr (.inl (some (26, r10))))), (3, .inl (wl2i r6)), (2, .inl r4), (0, .inr (.inr (.inl (some (19, 0))))), (1, .inr (.inr (.inl (some (1, s)))))]) (st' := []) (m' := m12) (o := none) rfl trivial ?_
      refine ww_sub (L := [(0, .inr (.inr (.inl (some (19, 0))))), (1, .inr (.inr (.inl (some (1, s))))), (2, .inl r4), (3, .inl (wl2i r6)), (4, .inr (.inr (.inl (some (26, r10)))))]) ⟨rfl, rfl, rfl, rfl, rfl, trivial⟩ rfl rfl ?_
      exact (zs103_l75 hc s hG h0 _) r4 (wl2i r6) r10 m12 rfl (zB_mono hGm12 (by omega)) hFm12 (by omega)
    · show wW (zK sc) zM103 51 [(0, .inr (.inr (.inl (some (19, 0))))), (1, .inr (.inr (.inl (some (1, s)))))] [] _ _ _
      refine ww_go 1 (pc' := 52) (L' := [(0, .inr (.inr (.inl (some (19, 0))))), (1, .inr (.inr (.inl (some (1, s)))))]) (st' := [.inl 3]) (m' := m) (o := none) rfl trivial ?_
      exact ww_rI rfl rfl ⟨_, rfl, rfl, zB_mono hGm (by omega), hFm, by omega⟩
set_option maxRecDepth 8000 in
/-- Receiver.whyDropped -/
theorem zs103 {sc : xSc} {n : Nat × Nat} {m0 : wm} {c : Int} (hc : 0 ≤ c ∧ c ≤ 1000000) (s : Nat) (hG : zB c m0) (h0 : s < 101) : wX (zK sc) 103 [.inr (.inr (.inl (some (19, 0)))), .inr (.inr (.inl (some (1, s))))] n m0 (wr (fun vv n1 m1 => ∃ r : Int, vv = some (.inl r) ∧ n = n1 ∧ zB c m1 ∧ zfr (fun k i j => (k = 22) ∨ (k = 23) ∨ (k = 24) ∨ (k = 25) ∨ (k = 1 ∧ 101 ≤ i ∧ i < 171 ∧ j = 1) ∨ (k = 2 ∧ 101 ≤ i ∧ i < 171) ∨ (26 ≤ k ∧ k ≤ 33 ∧ i < 10) ∨ (k = 19)) m0 m1 ∧ (0 ≤ r ∧ r ≤ 6 ∧ (r = 0 → zBat m1 s 1 ≤ 1 ∧ zBat m1 s 4 ≤ 6 ∧ zBat m1 s 5 ≤ 1)))) := by
  refine wX_of (N := zM103) rfl (Nat.le_of_ble_eq_true rfl) ?_
  show wW (zK sc) zM103 0 [(0, .inr (.inr (.inl (some (19, 0))))), (1, .inr (.inr (.inl (some (1, s)))))] [] n m0 _
  have hF : zfr (fun k i j => (k = 22) ∨ (k = 23) ∨ (k = 24) ∨ (k = 25) ∨ (k = 1 ∧ 101 ≤ i ∧ i < 171 ∧ j = 1) ∨ (k = 2 ∧ 101 ≤ i ∧ i < 171) ∨ (26 ≤ k ∧ k ≤ 33 ∧ i < 10) ∨ (k = 19)) m0 m0 := zfr_rf
  refine ww_go 2 (pc' := 3) (L' := [(0, .inr (.inr (.inl (some (19, 0))))), (1, .inr (.inr (.inl (some (1, s)))))]) (st' := [.inl 16, .inr (.inr (.inl (some (1, s))))]) (m' := m0) (o := none) rfl trivial ?_
  refine ww_call (vs := [.inr (.inr (.inl (some (1, s)))), .inl 16]) (r := []) (p := s < 171) rfl rfl rfl rfl (show s < 171 from by omega) (zs33 (c := c) (by omega) 16 s hG (by omega)) ?_
  rintro _ _ _ ⟨r1, rfl, rfl, rfl, hr2⟩
  show wW (zK sc) zM103 6 [(0, .inr (.inr (.inl (some (19, 0))))), (1, .inr (.inr (.inl (some (1, s)))))] [.inr (.inl r1)] _ _ _
  refine ww_go 3 (pc' := 11) (L' := [(0, .inr (.inr (.inl (some (19, 0))))), (1, .inr (.inr (.inl (some (1, s)))))]) (st' := [.inl 8, .inl 16, .inr (.inr (.inl (some (1, s)))), .inr (.inl r1)]) (m' := m0) (o := none) rfl trivial ?_
  refine ww_call (vs := [.inr (.inr (.inl (some (1, s)))), .inl 16, .inl 8]) (r := [.inr (.inl r1)]) (p := s < 171) rfl rfl rfl rfl (show s < 171 from by omega) (zs36 (c := c) (by omega) 16 8 s hG (by omega)) ?_
  rintro _ _ _ ⟨r3, rfl, rfl, rfl, hr4⟩
  show wW (zK sc) zM103 14 [(0, .inr (.inr (.inl (some (19, 0))))), (1, .inr (.inr (.inl (some (1, s)))))] [.inr (.inl r3), .inr (.inl r1)] _ _ _
  have t5 := wlcmp_rg r1 r3
  refine ww_go 1 (pc' := 15) (L' := [(0, .inr (.inr (.inl (some (19, 0))))), (1, .inr (.inr (.inl (some (1, s)))))]) (st' := [.inl (wlcmp r1 r3)]) (m' := m0) (o := none) rfl trivial ?_
  refine ww_if (t := 20) rfl rfl (by omega) (fun (h6 : wlcmp r1 r3 = 0) => ?_) (fun (h6 : ¬ (wlcmp r1 r3 = 0)) => ?_)
  · show wW (zK sc) zM103 20 [(0, .inr (.inr (.inl (some (19, 0))))), (1, .inr (.inr (.inl (some (1, s)))))] [] _ _ _
    refine ww_go 3 (pc' := 23) (L' := [(0, .inr (.inr (.inl (some (19, 0))))), (1, .inr (.inr (.inl (some (1, s)))))]) (st' := [.inl 0, .inr (.inr (.inl (some (1, s)))), .inr (.inr (.inl (some (19, 0))))]) (m' := m0) (o := none) rfl trivial ?_
    refine ww_call (vs := [.inr (.inr (.inl (some (1, s)))), .inl 0]) (r := [.inr (.inr (.inl (some (19, 0))))]) (p := s < 171) rfl rfl rfl rfl (show s < 171 from by omega) (zs28 (c := c) (by omega) 0 s hG (by omega)) ?_
    rintro _ _ _ ⟨r7, rfl, rfl, rfl, hr8⟩
    show wW (zK sc) zM103 26 [(0, .inr (.inr (.inl (some (19, 0))))), (1, .inr (.inr (.inl (some (1, s)))))] [.inl r7, .inr (.inr (.inl (some (19, 0))))] _ _ _
    refine ww_call (vs := [.inr (.inr (.inl (some (19, 0)))), .inl r7]) (r := []) (p := 0 < 1) rfl rfl rfl rfl (show 0 < 1 from by omega) (zs98 (c := c) (by omega) r7 hG (by omega)) ?_
    rintro _ _ m11 ⟨rfl, rfl, hGm11, hEm11, hr10⟩
    have hFm11 : zfr (fun k i j => (k = 22) ∨ (k = 23) ∨ (k = 24) ∨ (k = 25) ∨ (k = 1 ∧ 101 ≤ i ∧ i < 171 ∧ j = 1) ∨ (k = 2 ∧ 101 ≤ i ∧ i < 171) ∨ (26 ≤ k ∧ k ≤ 33 ∧ i < 10) ∨ (k = 19)) m0 m11 := zfr_tr hF hEm11 (fun k i j z => Or.elim z (fun z => Or.inl z) (fun z => Or.elim z (fun z => Or.inr (Or.inl z)) (fun z => Or.elim z (fun z => Or.inr (Or.inr (Or.inl z))) (fun z => Or.elim z (fun z => Or.inr (Or.inr (Or.inr (Or.inl z)))) (fun z => Or.inr (Or.inr (Or.inr (Or.inr (Or.inr (Or.inr (Or.inr (z))))))))))))
    show wW (zK sc) zM103 29 [(0, .inr (.inr (.inl (some (19, 0))))), (1, .inr (.inr (.inl (some (1, s)))))] [] _ _ _
    have w12 : zBat m11 s 1 = zBat m0 s 1 := zBat_fr 1 hEm11 (show ¬ ((1 = 22) ∨ (1 = 23) ∨ (1 = 24) ∨ (1 = 25) ∨ (1 = 19)) from by omega) (fun j => (show ¬ ((2 = 22) ∨ (2 = 23) ∨ (2 = 24) ∨ (2 = 25) ∨ (2 = 19)) from by omega))
    have w13 : zBat m11 s 2 = zBat m0 s 2 := zBat_fr 2 hEm11 (show ¬ ((1 = 22) ∨ (1 = 23) ∨ (1 = 24) ∨ (1 = 25) ∨ (1 = 19)) from by omega) (fun j => (show ¬ ((2 = 22) ∨ (2 = 23) ∨ (2 = 24) ∨ (2 = 25) ∨ (2 = 19)) from by omega))
    have w14 : zBat m11 s 3 = zBat m0 s 3 := zBat_fr 3 hEm11 (show ¬ ((1 = 22) ∨ (1 = 23) ∨ (1 = 24) ∨ (1 = 25) ∨ (1 = 19)) from by omega) (fun j => (show ¬ ((2 = 22) ∨ (2 = 23) ∨ (2 = 24) ∨ (2 = 25) ∨ (2 = 19)) from by omega))
    have w15 : zBat m11 s 4 = zBat m0 s 4 := zBat_fr 4 hEm11 (show ¬ ((1 = 22) ∨ (1 = 23) ∨ (1 = 24) ∨ (1 = 25) ∨ (1 = 19)) from by omega) (fun j => (show ¬ ((2 = 22) ∨ (2 = 23) ∨ (2 = 24) ∨ (2 = 25) ∨ (2 = 19)) from by omega))
    have w16 : zBat m11 s 5 = zBat m0 s 5 := zBat_fr 5 hEm11 (show ¬ ((1 = 22) ∨ (1 = 23) ∨ (1 = 24) ∨ (1 = 25) ∨ (1 = 19)) from by omega) (fun j => (show ¬ ((2 = 22) ∨ (2 = 23) ∨ (2 = 24) ∨ (2 = 25) ∨ (2 = 19)) from by omega))
    have w17 : zBat m11 s 7 = zBat m0 s 7 := zBat_fr 7 hEm11 (show ¬ ((1 = 22) ∨ (1 = 23) ∨ (1 = 24) ∨ (1 = 25) ∨ (1 = 19)) from by omega) (fun j => (show ¬ ((2 = 22) ∨ (2 = 23) ∨ (2 = 24) ∨ (2 = 25) ∨ (2 = 19)) from by omega))
    refine ww_go 2 (pc' := 31) (L' := [(0, .inr (.inr (.inl (some (19, 0))))), (1, .inr (.inr (.inl (some (1, s)))))]) (st' := [.inl 0, .inr (.inr (.inl (some (1, s))))]) (m' := m11) (o := none) rfl trivial ?_
    refine ww_call (vs := [.inr (.inr (.inl (some (1, s)))), .inl 0]) (r := []) (p := s < 171) rfl rfl rfl rfl (show s < 171 from by omega) (zs28 (c := c) (by omega) 0 s hGm11 (by omega)) ?_
    rintro _ _ _ ⟨r18, rfl, rfl, rfl, hr19⟩
    show wW (zK sc) zM103 34 [(0, .inr (.inr (.inl (some (19, 0))))), (1, .inr (.inr (.inl (some (1, s)))))] [.inl r18] _ _ _
    have b20 : 0 ≤ m11.1 19 0 5 ∧ m11.1 19 0 5 ≤ 255 := hGm11.1 19 _ rfl _ _
    refine ww_go 2 (pc' := 38) (L' := [(0, .inr (.inr (.inl (some (19, 0))))), (1, .inr (.inr (.inl (some (1, s)))))]) (st' := [.inl (m11.1 19 0 5), .inl r18]) (m' := m11) (o := some ((0 < 1))) rfl (show (0 < 1) from by omega) ?_
    refine ww_ic (t := 43) rfl rfl (by omega) (fun (h21 : m11.1 19 0 5 ≤ r18) => ?_) (fun (h21 : ¬ (m11.1 19 0 5 ≤ r18)) => ?_)
    · show wW (zK sc) zM103 43 [(0, .inr (.inr (.inl (some (19, 0))))), (1, .inr (.inr (.inl (some (1, s)))))] [] _ _ _
      exact (zs103_l43 hc s hG h0 _)  m11 rfl (zB_mono hGm11 (by omega)) hFm11 
    · show wW (zK sc) zM103 41 [(0, .inr (.inr (.inl (some (19, 0))))), (1, .inr (.inr (.inl (some (1, s)))))] [] _ _ _
      refine ww_go 1 (pc' := 42) (L' := [(0, .inr (.inr (.inl (some (19, 0))))), (1, .inr (.inr (.inl (some (1, s)))))]) (st' := [.inl 2]) (m' := m11) (o := none) rfl trivial ?_
      exact ww_rI rfl rfl ⟨_, rfl, rfl, zB_mono hGm11 (by omega), hFm11, by omega⟩
  · show wW (zK sc) zM103 18 [(0, .inr (.inr (.inl (some (19, 0))))), (1, .inr (.inr (.inl (some (1, s)))))] [] _ _ _
    refine ww_go 1 (pc' := 19) (L' := [(0, .inr (.inr (.inl (some (19, 0))))), (1, .inr (.inr (.inl (some (1, s)))))]) (st' := [.inl 1]) (m' := m0) (o := none) rfl trivial ?_
    exact ww_rI rfl rfl ⟨_, rfl, rfl, zB_mono hG (by omega), hF, by omega⟩
