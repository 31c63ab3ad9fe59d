set_option maxRecDepth 8000 in
theorem zs192_l6 {sc : xSc} {n : Nat × Nat} {m0 : wm} {c : Int} (hc : 0 ≤ c ∧ c ≤ 1000000) (x : Int) (y : Int) (b : Int) (hG : zB c m0) (h0 : -2147483648 ≤ x ∧ x ≤ 2147483647 ∧ -2147483648 ≤ y ∧ y ≤ 2147483647 ∧ -2147483648 ≤ b ∧ b ≤ 2147483647) : ∀ (d : Nat), ∀ (u : Int) (i : Int) (m : wm), (24 - i).toNat = d → zB c m → zfr (fun k i j => (k = 58) ∨ (k = 59) ∨ (k = 60) ∨ (k = 61) ∨ (k = 34 ∧ j = 30)) m0 m → (0 ≤ u ∧ u ≤ i ∧ i ≤ m0.1 34 0 30 ∧ m.1 34 0 30 = m0.1 34 0 30) → (∀ q : Int, i ≤ q → m.1 58 0 q.toNat = m0.1 58 0 q.toNat) → (b < 0 → zHit m0 i x y → u < i) →  wW (zK sc) zM192 6 [(0, .inr (.inr (.inl (some (34, 0))))), (1, .inl x), (2, .inl y), (3, .inl b), (4, .inl u), (5, .inl i)] [] n m (wr (fun vv n1 m1 => vv = none ∧ n = n1 ∧ zB c m1 ∧ zfr (fun k i j => (k = 58) ∨ (k = 59) ∨ (k = 60) ∨ (k = 61) ∨ (k = 34 ∧ j = 30)) m0 m1 ∧ (m1.1 34 0 30 ≤ m0.1 34 0 30 ∧ (b < 0 → zHit m0 (m0.1 34 0 30) x y → m1.1 34 0 30 < m0.1 34 0 30)))) := by
  intro d
  induction d using Nat.strongRecOn with
  | ind d ih =>
    intro u i m hd hGm hFm hi hq hh
    have q0 : 0 ≤ m0.1 34 0 30 ∧ m0.1 34 0 30 ≤ 24 := hG.1 34 _ rfl _ _
    have b1 : 0 ≤ m.1 34 0 30 ∧ m.1 34 0 30 ≤ 24 := hGm.1 34 _ rfl _ _
    refine ww_go 3 (pc' := 12) (L' := [(0, .inr (.inr (.inl (some (34, 0))))), (1, .inl x), (2, .inl y), (3, .inl b), (4, .inl u), (5, .inl i)]) (st' := [.inl (m.1 34 0 30), .inl i]) (m' := m) (o := some ((0 < 1))) rfl (show (0 < 1) from by omega) ?_
    refine ww_ic (t := 113) rfl rfl (by omega) (fun (h2 : m.1 34 0 30 ≤ i) => ?_) (fun (h2 : ¬ (m.1 34 0 30 ≤ i)) => ?_)
    · show wW (zK sc) zM192 113 [(0, .inr (.inr (.inl (some (34, 0))))), (1, .inl x), (2, .inl y), (3, .inl b), (4, .inl u), (5, .inl i)] [] _ _ _
      refine ww_go 3 (pc' := 119) (L' := [(0, .inr (.inr (.inl (some (34, 0))))), (1, .inl x), (2, .inl y), (3, .inl b), (4, .inl u), (5, .inl i)]) (st' := []) (m' := wuI m 34 0 30 u) (o := some ((0 < 1))) rfl (show (0 < 1) from by omega) ?_
      obtain ⟨m3, hm3⟩ : ∃ zq9 : wm, zq9 = wuI m 34 0 30 u := ⟨_, rfl⟩
      rw [← hm3]
      have hGm3 : zB c m3 := by rw [hm3]; exact zB_wI rfl (show 0 ≤ u ∧ u ≤ 24 from by omega) hGm
      have hFm3 : zfr (fun k i j => (k = 58) ∨ (k = 59) ∨ (k = 60) ∨ (k = 61) ∨ (k = 34 ∧ j = 30)) m0 m3 := by rw [hm3]; exact zfr_wI hFm (show (34 = 58) ∨ (34 = 59) ∨ (34 = 60) ∨ (34 = 61) ∨ (34 = 34 ∧ 30 = 30) from Or.inr (Or.inr (Or.inr (Or.inr (⟨rfl, rfl⟩)))))
      have s4 : m3.1 34 0 30 = u := by rw [hm3]; exact wuI_self
      exact ww_rV rfl rfl ⟨rfl, rfl, zB_mono hGm3 (by omega), hFm3, ⟨by omega, fun hb hz => by obtain ⟨q, z1, z2, z3, z4⟩ := hz; have := hh hb ⟨q, z1, by omega, z3, z4⟩; omega⟩⟩
    · show wW (zK sc) zM192 15 [(0, .inr (.inr (.inl (some (34, 0))))), (1, .inl x), (2, .inl y), (3, .inl b), (4, .inl u), (5, .inl i)] [] _ _ _
      have b5 : 0 ≤ m.1 58 0 i.toNat ∧ m.1 58 0 i.toNat ≤ 55 := hGm.1 58 _ rfl _ _
      refine ww_go 6 (pc' := 24) (L' := [(0, .inr (.inr (.inl (some (34, 0))))), (1, .inl x), (2, .inl y), (3, .inl b), (4, .inl u), (5, .inl i)]) (st' := [.inl y, .inl x, .inl (m.1 58 0 i.toNat)]) (m' := m) (o := some ((0 < 1) ∧ (0 < 1 ∧ 0 ≤ i ∧ i < ((24 : Nat) : Int)))) rfl (show (0 < 1) ∧ (0 < 1 ∧ 0 ≤ i ∧ i < ((24 : Nat) : Int)) from by omega) ?_
      refine ww_call (vs := [.inl (m.1 58 0 i.toNat), .inl x, .inl y]) (r := []) (p := True) rfl rfl rfl rfl trivial (zs207 (m.1 58 0 i.toNat) x y (by omega)) ?_
      rintro _ _ _ ⟨r6, rfl, rfl, rfl, hr7⟩
      show wW (zK sc) zM192 27 [(0, .inr (.inr (.inl (some (34, 0))))), (1, .inl x), (2, .inl y), (3, .inl b), (4, .inl u), (5, .inl i)] [.inl r6] _ _ _
      refine ww_if (t := 48) rfl rfl (by omega) (fun (h8 : r6 = 0) => ?_) (fun (h8 : ¬ (r6 = 0)) => ?_)
      · show wW (zK sc) zM192 48 [(0, .inr (.inr (.inl (some (34, 0))))), (1, .inl x), (2, .inl y), (3, .inl b), (4, .inl u), (5, .inl i)] [] _ _ _
        have b9 : 0 ≤ m.1 58 0 i.toNat ∧ m.1 58 0 i.toNat ≤ 55 := hGm.1 58 _ rfl _ _
        refine ww_go 8 (pc' := 62) (L' := [(0, .inr (.inr (.inl (some (34, 0))))), (1, .inl x), (2, .inl y), (3, .inl b), (4, .inl u), (5, .inl i)]) (st' := []) (m' := wuI m 58 0 u.toNat (m.1 58 0 i.toNat)) (o := some ((0 < 1) ∧ (0 < 1) ∧ (0 < 1 ∧ 0 ≤ i ∧ i < ((24 : Nat) : Int)) ∧ (0 < 1 ∧ 0 ≤ u ∧ u < ((24 : Nat) : Int)))) rfl (show (0 < 1) ∧ (0 < 1) ∧ (0 < 1 ∧ 0 ≤ i ∧ i < ((24 : Nat) : Int)) ∧ (0 < 1 ∧ 0 ≤ u ∧ u < ((24 : Nat) : Int)) from by omega) ?_
        obtain ⟨m10, hm10⟩ : ∃ zq9 : wm, zq9 = wuI m 58 0 u.toNat (m.1 58 0 i.toNat) := ⟨_, rfl⟩
        rw [← hm10]
        have hGm10 : zB c m10 := by rw [hm10]; exact zB_wI rfl (show 0 ≤ m.1 58 0 i.toNat ∧ m.1 58 0 i.toNat ≤ 55 from by omega) hGm
        have hFm10 : zfr (fun k i j => (k = 58) ∨ (k = 59) ∨ (k = 60) ∨ (k = 61) ∨ (k = 34 ∧ j = 30)) m0 m10 := by rw [hm10]; exact zfr_wI hFm (show (58 = 58) ∨ (58 = 59) ∨ (58 = 60) ∨ (58 = 61) ∨ (58 = 34 ∧ u.toNat = 30) from Or.inl rfl)
        have s11 : m10.1 58 0 u.toNat = m.1 58 0 i.toNat := by rw [hm10]; exact wuI_self
        have w12 : m10.1 34 0 30 = m.1 34 0 30 := by rw [hm10]; rfl
        have b13 : 0 ≤ m10.1 59 0 i.toNat ∧ m10.1 59 0 i.toNat ≤ 1 := hGm10.1 59 _ rfl _ _
        refine ww_go 8 (pc' := 76) (L' := [(0, .inr (.inr (.inl (some (34, 0))))), (1, .inl x), (2, .inl y), (3, .inl b), (4, .inl u), (5, .inl i)]) (st' := []) (m' := wuI m10 59 0 u.toNat (m10.1 59 0 i.toNat)) (o := some ((0 < 1) ∧ (0 < 1) ∧ (0 < 1 ∧ 0 ≤ i ∧ i < ((24 : Nat) : Int)) ∧ (0 < 1 ∧ 0 ≤ u ∧ u < ((24 : Nat) : Int)))) rfl (show (0 < 1) ∧ (0 < 1) ∧ (0 < 1 ∧ 0 ≤ i ∧ i < ((24 : Nat) : Int)) ∧ (0 < 1 ∧ 0 ≤ u ∧ u < ((24 : Nat) : Int)) from by omega) ?_
        obtain ⟨m14, hm14⟩ : ∃ zq9 : wm, zq9 = wuI m10 59 0 u.toNat (m10.1 59 0 i.toNat) := ⟨_, rfl⟩
        rw [← hm14]
        have hGm14 : zB c m14 := by rw [hm14]; exact zB_wI rfl (show 0 ≤ m10.1 59 0 i.toNat ∧ m10.1 59 0 i.toNat ≤ 1 from by omega) hGm10
        have hFm14 : zfr (fun k i j => (k = 58) ∨ (k = 59) ∨ (k = 60) ∨ (k = 61) ∨ (k = 34 ∧ j = 30)) m0 m14 := by rw [hm14]; exact zfr_wI hFm10 (show (59 = 58) ∨ (59 = 59) ∨ (59 = 60) ∨ (59 = 61) ∨ (59 = 34 ∧ u.toNat = 30) from Or.inr (Or.inl rfl))
        have s15 : m14.1 59 0 u.toNat = m10.1 59 0 i.toNat := by rw [hm14]; exact wuI_self
        have w16 : m14.1 34 0 30 = m10.1 34 0 30 := by rw [hm14]; rfl
        have b17 : (-2147483648) ≤ m14.1 60 0 i.toNat ∧ m14.1 60 0 i.toNat ≤ 2147483647 := hGm14.1 60 _ rfl _ _
        refine ww_go 8 (pc' := 90) (L' := [(0, .inr (.inr (.inl (some (34, 0))))), (1, .inl x), (2, .inl y), (3, .inl b), (4, .inl u), (5, .inl i)]) (st' := []) (m' := wuI m14 60 0 u.toNat (m14.1 60 0 i.toNat)) (o := some ((0 < 1) ∧ (0 < 1) ∧ (0 < 1 ∧ 0 ≤ i ∧ i < ((24 : Nat) : Int)) ∧ (0 < 1 ∧ 0 ≤ u ∧ u < ((24 : Nat) : Int)))) rfl (show (0 < 1) ∧ (0 < 1) ∧ (0 < 1 ∧ 0 ≤ i ∧ i < ((24 : Nat) : Int)) ∧ (0 < 1 ∧ 0 ≤ u ∧ u < ((24 : Nat) : Int)) from by omega) ?_
        obtain ⟨m18, hm18⟩ : ∃ zq9 : wm, zq9 = wuI m14 60 0 u.toNat (m14.1 60 0 i.toNat) := ⟨_, rfl⟩
        rw [← hm18]
        have hGm18 : zB c m18 := by rw [hm18]; exact zB_wI rfl (show (-2147483648) ≤ m14.1 60 0 i.toNat ∧ m14.1 60 0 i.toNat ≤ 2147483647 from by omega) hGm14
        have hFm18 : zfr (fun k i j => (k = 58) ∨ (k = 59) ∨ (k = 60) ∨ (k = 61) ∨ (k = 34 ∧ j = 30)) m0 m18 := by rw [hm18]; exact zfr_wI hFm14 (show (60 = 58) ∨ (60 = 59) ∨ (60 = 60) ∨ (60 = 61) ∨ (60 = 34 ∧ u.toNat = 30) from Or.inr (Or.inr (Or.inl rfl)))
        have s19 : m18.1 60 0 u.toNat = m14.1 60 0 i.toNat := by rw [hm18]; exact wuI_self
        have w20 : m18.1 34 0 30 = m14.1 34 0 30 := by rw [hm18]; rfl
        refine ww_go 8 (pc' := 104) (L' := [(0, .inr (.inr (.inl (some (34, 0))))), (1, .inl x), (2, .inl y), (3, .inl b), (4, .inl u), (5, .inl i)]) (st' := []) (m' := wuL m18 61 0 u.toNat (m18.2.1 61 0 i.toNat)) (o := some ((0 < 1) ∧ (0 < 1) ∧ (0 < 1 ∧ 0 ≤ i ∧ i < ((24 : Nat) : Int)) ∧ (0 < 1 ∧ 0 ≤ u ∧ u < ((24 : Nat) : Int)))) rfl (show (0 < 1) ∧ (0 < 1) ∧ (0 < 1 ∧ 0 ≤ i ∧ i < ((24 : Nat) : Int)) ∧ (0 < 1 ∧ 0 ≤ u ∧ u < ((24 : Nat) : Int)) from by omega) ?_
        obtain ⟨m21, hm21⟩ : ∃ zq9 : wm, zq9 = wuL m18 61 0 u.toNat (m18.2.1 61 0 i.toNat) := ⟨_, rfl⟩
        rw [← hm21]
        have hGm21 : zB c m21 := by rw [hm21]; exact zB_wL hGm18
        have hFm21 : zfr (fun k i j => (k = 58) ∨ (k = 59) ∨ (k = 60) ∨ (k = 61) ∨ (k = 34 ∧ j = 30)) m0 m21 := by rw [hm21]; exact zfr_wL hFm18 (show (61 = 58) ∨ (61 = 59) ∨ (61 = 60) ∨ (61 = 61) ∨ (61 = 34 ∧ u.toNat = 30) from Or.inr (Or.inr (Or.inr (Or.inl rfl))))
        have w22 : m21.1 34 0 30 = m18.1 34 0 30 := by rw [hm21]; rfl
        refine ww_go 3 (pc' := 6) (L' := [(5, .inl (i + 1)), (4, .inl (u + 1)), (0, .inr (.inr (.inl (some (34, 0))))), (1, .inl x), (2, .inl y), (3, .inl b)]) (st' := []) (m' := m21) (o := none) rfl trivial ?_
        refine ww_sub (L := [(0, .inr (.inr (.inl (some (34, 0))))), (1, .inl x), (2, .inl y), (3, .inl b), (4, .inl (u + 1)), (5, .inl (i + 1))]) ⟨rfl, rfl, rfl, rfl, rfl, rfl, trivial⟩ rfl rfl ?_
        exact (ih _ (by omega)) (u + 1) (i + 1) m21 rfl (zB_mono hGm21 (by omega)) hFm21 (by omega) (by exact fun q h9 => by rw [hm21]; show m18.1 58 0 q.toNat = _; rw [hm18]; show m14.1 58 0 q.toNat = _; rw [hm14]; show m10.1 58 0 q.toNat = _; rw [hm10]; rw [wuI_nj (by omega)]; exact hq q (by omega)) (by first | exact fun _ hz => (by obtain ⟨q, z1, z2, _⟩ := hz; omega) | exact fun _ _ => (by omega) | exact fun hb hz => (by obtain ⟨q, z1, z2, z3, z4⟩ := hz; exact (Decidable.em (q < i)).elim (fun h9 => by have := hh hb ⟨q, z1, h9, z3, z4⟩; omega) (fun h9 => by have h8 : q = i := (by omega); rw [h8] at z3 z4; have := hq i (by omega); omega)))
      · show wW (zK sc) zM192 30 [(0, .inr (.inr (.inl (some (34, 0))))), (1, .inl x), (2, .inl y), (3, .inl b), (4, .inl u), (5, .inl i)] [] _ _ _
        refine ww_go 1 (pc' := 31) (L' := [(0, .inr (.inr (.inl (some (34, 0))))), (1, .inl x), (2, .inl y), (3, .inl b), (4, .inl u), (5, .inl i)]) (st' := [.inl b]) (m' := m) (o := none) rfl trivial ?_
        refine ww_if (t := 107) rfl rfl (by omega) (fun (h23 : b < 0) => ?_) (fun (h23 : ¬ (b < 0)) => ?_)
        · show wW (zK sc) zM192 107 [(0, .inr (.inr (.inl (some (34, 0))))), (1, .inl x), (2, .inl y), (3, .inl b), (4, .inl u), (5, .inl i)] [] _ _ _
          refine ww_go 2 (pc' := 6) (L' := [(5, .inl (i + 1)), (0, .inr (.inr (.inl (some (34, 0))))), (1, .inl x), (2, .inl y), (3, .inl b), (4, .inl u)]) (st' := []) (m' := m) (o := none) rfl trivial ?_
          refine ww_sub (L := [(0, .inr (.inr (.inl (some (34, 0))))), (1, .inl x), (2, .inl y), (3, .inl b), (4, .inl u), (5, .inl (i + 1))]) ⟨rfl, rfl, rfl, rfl, rfl, rfl, trivial⟩ rfl rfl ?_
          exact (ih _ (by omega)) u (i + 1) m rfl (zB_mono hGm (by omega)) hFm (by omega) (by exact fun q h9 => by skip; exact hq q (by omega)) (by first | exact fun _ hz => (by obtain ⟨q, z1, z2, _⟩ := hz; omega) | exact fun _ _ => (by omega) | exact fun hb hz => (by obtain ⟨q, z1, z2, z3, z4⟩ := hz; exact (Decidable.em (q < i)).elim (fun h9 => by have := hh hb ⟨q, z1, h9, z3, z4⟩; omega) (fun h9 => by have h8 : q = i := (by omega); rw [h8] at z3 z4; have := hq i (by omega); omega)))
        · show wW (zK sc) zM192 34 [(0, .inr (.inr (.inl (some (34, 0))))), (1, .inl x), (2, .inl y), (3, .inl b), (4, .inl u), (5, .inl i)] [] _ _ _
          have b24 : 0 ≤ m.1 59 0 i.toNat ∧ m.1 59 0 i.toNat ≤ 1 := hGm.1 59 _ rfl _ _
          refine ww_go 5 (pc' := 42) (L' := [(0, .inr (.inr (.inl (some (34, 0))))), (1, .inl x), (2, .inl y), (3, .inl b), (4, .inl u), (5, .inl i)]) (st' := [.inl b, .inl (m.1 59 0 i.toNat)]) (m' := m) (o := some ((0 < 1) ∧ (0 < 1 ∧ 0 ≤ i ∧ i < ((24 : Nat) : Int)))) rfl (show (0 < 1) ∧ (0 < 1 ∧ 0 ≤ i ∧ i < ((24 : Nat) : Int)) from by omega) ?_
          refine ww_ic (t := 48) rfl rfl (by omega) (fun (h25 : m.1 59 0 i.toNat ≠ b) => ?_) (fun (h25 : ¬ (m.1 59 0 i.toNat ≠ b)) => ?_)
          · show wW (zK sc) zM192 48 [(0, .inr (.inr (.inl (some (34, 0))))), (1, .inl x), (2, .inl y), (3, .inl b), (4, .inl u), (5, .inl i)] [] _ _ _
            have b26 : 0 ≤ m.1 58 0 i.toNat ∧ m.1 58 0 i.toNat ≤ 55 := hGm.1 58 _ rfl _ _
            refine ww_go 8 (pc' := 62) (L' := [(0, .inr (.inr (.inl (some (34, 0))))), (1, .inl x), (2, .inl y), (3, .inl b), (4, .inl u), (5, .inl i)]) (st' := []) (m' := wuI m 58 0 u.toNat (m.1 58 0 i.toNat)) (o := some ((0 < 1) ∧ (0 < 1) ∧ (0 < 1 ∧ 0 ≤ i ∧ i < ((24 : Nat) : Int)) ∧ (0 < 1 ∧ 0 ≤ u ∧ u < ((24 : Nat) : Int)))) rfl (show (0 < 1) ∧ (0 < 1) ∧ (0 < 1 ∧ 0 ≤ i ∧ i < ((24 : Nat) : Int)) ∧ (0 < 1 ∧ 0 ≤ u ∧ u < ((24 : Nat) : Int)) from by omega) ?_
            obtain ⟨m27, hm27⟩ : ∃ zq9 : wm, zq9 = wuI m 58 0 u.toNat (m.1 58 0 i.toNat) := ⟨_, rfl⟩
            rw [← hm27]
            have hGm27 : zB c m27 := by rw [hm27]; exact zB_wI rfl (show 0 ≤ m.1 58 0 i.toNat ∧ m.1 58 0 i.toNat ≤ 55 from by omega) hGm
            have hFm27 : zfr (fun k i j => (k = 58) ∨ (k = 59) ∨ (k = 60) ∨ (k = 61) ∨ (k = 34 ∧ j = 30)) m0 m27 := by rw [hm27]; exact zfr_wI hFm (show (58 = 58) ∨ (58 = 59) ∨ (58 = 60) ∨ (58 = 61) ∨ (58 = 34 ∧ u.toNat = 30) from Or.inl rfl)
            have s28 : m27.1 58 0 u.toNat = m.1 58 0 i.toNat := by rw [hm27]; exact wuI_self
            have w29 : m27.1 34 0 30 = m.1 34 0 30 := by rw [hm27]; rfl
            have b30 : 0 ≤ m27.1 59 0 i.toNat ∧ m27.1 59 0 i.toNat ≤ 1 := hGm27.1 59 _ rfl _ _
            refine ww_go 8 (pc' := 76) (L' := [(0, .inr (.inr (.inl (some (34, 0))))), (1, .inl x), (2, .inl y), (3, .inl b), (4, .inl u), (5, .inl i)]) (st' := []) (m' := wuI m27 59 0 u.toNat (m27.1 59 0 i.toNat)) (o := some ((0 < 1) ∧ (0 < 1) ∧ (0 < 1 ∧ 0 ≤ i ∧ i < ((24 : Nat) : Int)) ∧ (0 < 1 ∧ 0 ≤ u ∧ u < ((24 : Nat) : Int)))) rfl (show (0 < 1) ∧ (0 < 1) ∧ (0 < 1 ∧ 0 ≤ i ∧ i < ((24 : Nat) : Int)) ∧ (0 < 1 ∧ 0 ≤ u ∧ u < ((24 : Nat) : Int)) from by omega) ?_
            obtain ⟨m31, hm31⟩ : ∃ zq9 : wm, zq9 = wuI m27 59 0 u.toNat (m27.1 59 0 i.toNat) := ⟨_, rfl⟩
            rw [← hm31]
            have hGm31 : zB c m31 := by rw [hm31]; exact zB_wI rfl (show 0 ≤ m27.1 59 0 i.toNat ∧ m27.1 59 0 i.toNat ≤ 1 from by omega) hGm27
            have hFm31 : zfr (fun k i j => (k = 58) ∨ (k = 59) ∨ (k = 60) ∨ (k = 61) ∨ (k = 34 ∧ j = 30)) m0 m31 := by rw [hm31]; exact zfr_wI hFm27 (show (59 = 58) ∨ (59 = 59) ∨ (59 = 60) ∨ (59 = 61) ∨ (59 = 34 ∧ u.toNat = 30) from Or.inr (Or.inl rfl))
            have s32 : m31.1 59 0 u.toNat = m27.1 59 0 i.toNat := by rw [hm31]; exact wuI_self
            have w33 : m31.1 34 0 30 = m27.1 34 0 30 := by rw [hm31]; rfl
            have b34 : (-2147483648) ≤ m31.1 60 0 i.toNat ∧ m31.1 60 0 i.toNat ≤ 2147483647 := hGm31.1 60 _ rfl _ _
            refine ww_go 8 (pc' := 90) (L' := [(0, .inr (.inr (.inl (some (34, 0))))), (1, .inl x), (2, .inl y), (3, .inl b), (4, .inl u), (5, .inl i)]) (st' := []) (m' := wuI m31 60 0 u.toNat (m31.1 60 0 i.toNat)) (o := some ((0 < 1) ∧ (0 < 1) ∧ (0 < 1 ∧ 0 ≤ i ∧ i < ((24 : Nat) : Int)) ∧ (0 < 1 ∧ 0 ≤ u ∧ u < ((24 : Nat) : Int)))) rfl (show (0 < 1) ∧ (0 < 1) ∧ (0 < 1 ∧ 0 ≤ i ∧ i < ((24 : Nat) : Int)) ∧ (0 < 1 ∧ 0 ≤ u ∧ u < ((24 : Nat) : Int)) from by omega) ?_
            obtain ⟨m35, hm35⟩ : ∃ zq9 : wm, zq9 = wuI m31 60 0 u.toNat (m31.1 60 0 i.toNat) := ⟨_, rfl⟩
            rw [← hm35]
            have hGm35 : zB c m35 := by rw [hm35]; exact zB_wI rfl (show (-2147483648) ≤ m31.1 60 0 i.toNat ∧ m31.1 60 0 i.toNat ≤ 2147483647 from by omega) hGm31
            have hFm35 : zfr (fun k i j => (k = 58) ∨ (k = 59) ∨ (k = 60) ∨ (k = 61) ∨ (k = 34 ∧ j = 30)) m0 m35 := by rw [hm35]; exact zfr_wI hFm31 (show (60 = 58) ∨ (60 = 59) ∨ (60 = 60) ∨ (60 = 61) ∨ (60 = 34 ∧ u.toNat = 30) from Or.inr (Or.inr (Or.inl rfl)))
            have s36 : m35.1 60 0 u.toNat = m31.1 60 0 i.toNat := by rw [hm35]; exact wuI_self
            have w37 : m35.1 34 0 30 = m31.1 34 0 30 := by rw [hm35]; rfl
            refine ww_go 8 (pc' := 104) (L' := [(0, .inr (.inr (.inl (some (34, 0))))), (1, .inl x), (2, .inl y), (3, .inl b), (4, .inl u), (5, .inl i)]) (st' := []) (m' := wuL m35 61 0 u.toNat (m35.2.1 61 0 i.toNat)) (o := some ((0 < 1) ∧ (0 < 1) ∧ (0 < 1 ∧ 0 ≤ i ∧ i < ((24 : Nat) : Int)) ∧ (0 < 1 ∧ 0 ≤ u ∧ u < ((24 : Nat) : Int)))) rfl (show (0 < 1) ∧ (0 < 1) ∧ (0 < 1 ∧ 0 ≤ i ∧ i < ((24 : Nat) : Int)) ∧ (0 < 1 ∧ 0 ≤ u ∧ u < ((24 : Nat) : Int)) from by omega) ?_
            obtain ⟨m38, hm38⟩ : ∃ zq9 : wm, zq9 = wuL m35 61 0 u.toNat (m35.2.1 61 0 i.toNat) := ⟨_, rfl⟩
            rw [← hm38]
            have hGm38 : zB c m38 := by rw [hm38]; exact zB_wL hGm35
            have hFm38 : zfr (fun k i j => (k = 58) ∨ (k = 59) ∨ (k = 60) ∨ (k = 61) ∨ (k = 34 ∧ j = 30)) m0 m38 := by rw [hm38]; exact zfr_wL hFm35 (show (61 = 58) ∨ (61 = 59) ∨ (61 = 60) ∨ (61 = 61) ∨ (61 = 34 ∧ u.toNat = 30) from Or.inr (Or.inr (Or.inr (Or.inl rfl))))
            have w39 : m38.1 34 0 30 = m35.1 34 0 30 := by rw [hm38]; rfl
            refine ww_go 3 (pc' := 6) (L' := [(5, .inl (i + 1)), (4, .inl (u + 1)), (0, .inr (.inr (.inl (some (34, 0))))), (1, .inl x), (2, .inl y), (3, .inl b)]) (st' := []) (m' := m38) (o := none) rfl trivial ?_
            refine ww_sub (L := [(0, .inr (.inr (.inl (some (34, 0))))), (1, .inl x), (2, .inl y), (3, .inl b), (4, .inl (u + 1)), (5, .inl (i + 1))]) ⟨rfl, rfl, rfl, rfl, rfl, rfl, trivial⟩ rfl rfl ?_
            exact (ih _ (by omega)) (u + 1) (i + 1) m38 rfl (zB_mono hGm38 (by omega)) hFm38 (by omega) (by exact fun q h9 => by rw [hm38]; show m35.1 58 0 q.toNat = _; rw [hm35]; show m31.1 58 0 q.toNat = _; rw [hm31]; show m27.1 58 0 q.toNat = _; rw [hm27]; rw [wuI_nj (by omega)]; exact hq q (by omega)) (by first | exact fun _ hz => (by obtain ⟨q, z1, z2, _⟩ := hz; omega) | exact fun _ _ => (by omega) | exact fun hb hz => (by obtain ⟨q, z1, z2, z3, z4⟩ := hz; exact (Decidable.em (q < i)).elim (fun h9 => by have := hh hb ⟨q, z1, h9, z3, z4⟩; omega) (fun h9 => by have h8 : q = i := (by omega); rw [h8] at z3 z4; have := hq i (by omega); omega)))
          · show wW (zK sc) zM192 45 [(0, .inr (.inr (.inl (some (34, 0))))), (1, .inl x), (2, .inl y), (3, .inl b), (4, .inl u), (5, .inl i)] [] _ _ _
            refine ww_go 3 (pc' := 6) (L' := [(5, .inl (i + 1)), (0, .inr (.inr (.inl (some (34, 0))))), (1, .inl x), (2, .inl y), (3, .inl b), (4, .inl u)]) (st' := []) (m' := m) (o := none) rfl trivial ?_
            refine ww_sub (L := [(0, .inr (.inr (.inl (some (34, 0))))), (1, .inl x), (2, .inl y), (3, .inl b), (4, .inl u), (5, .inl (i + 1))]) ⟨rfl, rfl, rfl, rfl, rfl, rfl, trivial⟩ rfl rfl ?_
            exact (ih _ (by omega)) u (i + 1) m rfl (zB_mono hGm (by omega)) hFm (by omega) (by exact fun q h9 => by skip; exact hq q (by omega)) (by first | exact fun _ hz => (by obtain ⟨q, z1, z2, _⟩ := hz; omega) | exact fun _ _ => (by omega) | exact fun hb hz => (by obtain ⟨q, z1, z2, z3, z4⟩ := hz; exact (Decidable.em (q < i)).elim (fun h9 => by have := hh hb ⟨q, z1, h9, z3, z4⟩; omega) (fun h9 => by have h8 : q = i := (by omega); rw [h8] at z3 z4; have := hq i (by omega); omega)))
set_option maxRecDepth 8000 in
/-- Mo.drop -/
theorem zs192 {sc : xSc} {n : Nat × Nat} {m0 : wm} {c : Int} (hc : 0 ≤ c ∧ c ≤ 1000000) (x : Int) (y : Int) (b : Int) (hG : zB c m0) (h0 : -2147483648 ≤ x ∧ x ≤ 2147483647 ∧ -2147483648 ≤ y ∧ y ≤ 2147483647 ∧ -2147483648 ≤ b ∧ b ≤ 2147483647) : wX (zK sc) 192 [.inr (.inr (.inl (some (34, 0)))), .inl x, .inl y, .inl b] n m0 (wr (fun vv n1 m1 => vv = none ∧ n = n1 ∧ zB c m1 ∧ zfr (fun k i j => (k = 58) ∨ (k = 59) ∨ (k = 60) ∨ (k = 61) ∨ (k = 34 ∧ j = 30)) m0 m1 ∧ (m1.1 34 0 30 ≤ m0.1 34 0 30 ∧ (b < 0 → zHit m0 (m0.1 34 0 30) x y → m1.1 34 0 30 < m0.1 34 0 30)))) := by
  refine wX_of (N := zM192) rfl (Nat.le_of_ble_eq_true rfl) ?_
  show wW (zK sc) zM192 0 [(0, .inr (.inr (.inl (some (34, 0))))), (1, .inl x), (2, .inl y), (3, .inl b)] [] n m0 _
  have hF : zfr (fun k i j => (k = 58) ∨ (k = 59) ∨ (k = 60) ∨ (k = 61) ∨ (k = 34 ∧ j = 30)) m0 m0 := zfr_rf
  have q0 : 0 ≤ m0.1 34 0 30 ∧ m0.1 34 0 30 ≤ 24 := hG.1 34 _ rfl _ _
  refine ww_go 4 (pc' := 6) (L' := [(5, .inl 0), (4, .inl 0), (0, .inr (.inr (.inl (some (34, 0))))), (1, .inl x), (2, .inl y), (3, .inl b)]) (st' := []) (m' := m0) (o := none) rfl trivial ?_
  refine ww_sub (L := [(0, .inr (.inr (.inl (some (34, 0))))), (1, .inl x), (2, .inl y), (3, .inl b), (4, .inl 0), (5, .inl 0)]) ⟨rfl, rfl, rfl, rfl, rfl, rfl, trivial⟩ rfl rfl ?_
  exact (zs192_l6 hc x y b hG h0 _) 0 0 m0 rfl (zB_mono hG (by omega)) hF (by omega) (by exact fun q _ => rfl) (by first | exact fun _ hz => (by obtain ⟨q, z1, z2, _⟩ := hz; omega) | exact fun _ _ => (by omega) | exact fun hb hz => (by obtain ⟨q, z1, z2, z3, z4⟩ := hz; exact (Decidable.em (q < i)).elim (fun h9 => by have := hh hb ⟨q, z1, h9, z3, z4⟩; omega) (fun h9 => by have h8 : q = i := (by omega); rw [h8] at z3 z4; have := hq i (by omega); omega)))
set_option maxRecDepth 8000 in
theorem zs254_l2 {sc : xSc} {n : Nat × Nat} {m0 : wm} {c : Int} (hc : 0 ≤ c ∧ c ≤ 1000000)  (hG : zB c m0) : ∀ (d : Nat), (∀ (i : Int) (m : wm), (56 - i).toNat * 100 + 99 = d → zB c m → zfr (fun k i j => (k = 54)) m0 m → (0 ≤ i ∧ i ≤ 56) → (zUs m0 m) →  wW (zK sc) zM254 2 [(0, .inr (.inr (.inl (some (34, 0))))), (1, .inl i)] [] n m (wr (fun vv n1 m1 => vv = none ∧ n = n1 ∧ zB c m1 ∧ zfr (fun k i j => (k = 54)) m0 m1 ∧ (zUs m0 m1)))) ∧ (∀ (i : Int) (s : Int) (k : Int) (m : wm), (56 - i).toNat * 100 + (24 - k).toNat = d → zB c m → zfr (fun k i j => (k = 54)) m0 m → (0 ≤ i ∧ i ≤ 55 ∧ 0 ≤ s ∧ s ≤ 1 ∧ 0 ≤ k ∧ k ≤ 24) → (zUs m0 m) → (s = 0 → (m0.1 55 0 (2 * i).toNat = 0 ∧ m0.1 55 0 (2 * i + 1).toNat = 0)) →  wW (zK sc) zM254 40 [(0, .inr (.inr (.inl (some (34, 0))))), (1, .inl i), (2, .inl s), (3, .inl k)] [] n m (wr (fun vv n1 m1 => vv = none ∧ n = n1 ∧ zB c m1 ∧ zfr (fun k i j => (k = 54)) m0 m1 ∧ (zUs m0 m1)))) := by
  intro d
  induction d using Nat.strongRecOn with
  | ind d ih =>
    refine ⟨?_, ?_⟩
    · intro i m hd hGm hFm hi hu
      have w6 := (hFm 55 0 (2 * i).toNat (show ¬ ((55 = 54)) from by omega)).1
      have w7 := (hFm 55 0 (2 * i + 1).toNat (show ¬ ((55 = 54)) from by omega)).1
      refine ww_go 2 (pc' := 5) (L' := [(0, .inr (.inr (.inl (some (34, 0))))), (1, .inl i)]) (st' := [.inl 56, .inl i]) (m' := m) (o := none) rfl trivial ?_
      refine ww_ic (t := 100) rfl rfl (by omega) (fun (h1 : 56 ≤ i) => ?_) (fun (h1 : ¬ (56 ≤ i)) => ?_)
      · show wW (zK sc) zM254 100 [(0, .inr (.inr (.inl (some (34, 0))))), (1, .inl i)] [] _ _ _
        exact ww_rV rfl rfl ⟨rfl, rfl, zB_mono hGm (by omega), hFm, hu⟩
      · show wW (zK sc) zM254 8 [(0, .inr (.inr (.inl (some (34, 0))))), (1, .inl i)] [] _ _ _
        have b2 : 0 ≤ m.1 55 0 ((2 * i).toNat) ∧ m.1 55 0 ((2 * i).toNat) ≤ 1 := hGm.1 55 _ rfl _ _
        refine ww_go 6 (pc' := 16) (L' := [(0, .inr (.inr (.inl (some (34, 0))))), (1, .inl i)]) (st' := [.inl (m.1 55 0 ((2 * i).toNat))]) (m' := m) (o := some ((0 < 1) ∧ (0 < 1 ∧ 0 ≤ 2 * i ∧ 2 * i < ((112 : Nat) : Int)))) rfl (show (0 < 1) ∧ (0 < 1 ∧ 0 ≤ 2 * i ∧ 2 * i < ((112 : Nat) : Int)) from by omega) ?_
        refine ww_if (t := 32) rfl rfl (by omega) (fun (h3 : m.1 55 0 ((2 * i).toNat) ≠ 0) => ?_) (fun (h3 : ¬ (m.1 55 0 ((2 * i).toNat) ≠ 0)) => ?_)
        · show wW (zK sc) zM254 32 [(0, .inr (.inr (.inl (some (34, 0))))), (1, .inl i)] [] _ _ _
          refine ww_go 5 (pc' := 40) (L' := [(3, .inl 0), (2, .inl 1), (0, .inr (.inr (.inl (some (34, 0))))), (1, .inl i)]) (st' := []) (m' := m) (o := none) rfl trivial ?_
          refine ww_sub (L := [(0, .inr (.inr (.inl (some (34, 0))))), (1, .inl i), (2, .inl 1), (3, .inl 0)]) ⟨rfl, rfl, rfl, rfl, trivial⟩ rfl rfl ?_
          exact (ih _ (by omega)).2 i 1 0 m rfl (zB_mono hGm (by omega)) hFm (by omega) (by exact hu) (by omega)
        · show wW (zK sc) zM254 19 [(0, .inr (.inr (.inl (some (34, 0))))), (1, .inl i)] [] _ _ _
          have b4 : 0 ≤ m.1 55 0 (((2 * i) + 1).toNat) ∧ m.1 55 0 (((2 * i) + 1).toNat) ≤ 1 := hGm.1 55 _ rfl _ _
          refine ww_go 8 (pc' := 29) (L' := [(0, .inr (.inr (.inl (some (34, 0))))), (1, .inl i)]) (st' := [.inl (m.1 55 0 (((2 * i) + 1).toNat))]) (m' := m) (o := some ((0 < 1) ∧ (0 < 1 ∧ 0 ≤ (2 * i) + 1 ∧ (2 * i) + 1 < ((112 : Nat) : Int)))) rfl (show (0 < 1) ∧ (0 < 1 ∧ 0 ≤ (2 * i) + 1 ∧ (2 * i) + 1 < ((112 : Nat) : Int)) from by omega) ?_
          refine ww_if (t := 36) rfl rfl (by omega) (fun (h5 : m.1 55 0 (((2 * i) + 1).toNat) = 0) => ?_) (fun (h5 : ¬ (m.1 55 0 (((2 * i) + 1).toNat) = 0)) => ?_)
          · show wW (zK sc) zM254 36 [(0, .inr (.inr (.inl (some (34, 0))))), (1, .inl i)] [] _ _ _
            refine ww_go 4 (pc' := 40) (L' := [(3, .inl 0), (2, .inl 0), (0, .inr (.inr (.inl (some (34, 0))))), (1, .inl i)]) (st' := []) (m' := m) (o := none) rfl trivial ?_
            refine ww_sub (L := [(0, .inr (.inr (.inl (some (34, 0))))), (1, .inl i), (2, .inl 0), (3, .inl 0)]) ⟨rfl, rfl, rfl, rfl, trivial⟩ rfl rfl ?_
            exact (ih _ (by omega)).2 i 0 0 m rfl (zB_mono hGm (by omega)) hFm (by omega) (by exact hu) (by omega)
          · show wW (zK sc) zM254 32 [(0, .inr (.inr (.inl (some (34, 0))))), (1, .inl i)] [] _ _ _
            refine ww_go 5 (pc' := 40) (L' := [(3, .inl 0), (2, .inl 1), (0, .inr (.inr (.inl (some (34, 0))))), (1, .inl i)]) (st' := []) (m' := m) (o := none) rfl trivial ?_
            refine ww_sub (L := [(0, .inr (.inr (.inl (some (34, 0))))), (1, .inl i), (2, .inl 1), (3, .inl 0)]) ⟨rfl, rfl, rfl, rfl, trivial⟩ rfl rfl ?_
            exact (ih _ (by omega)).2 i 1 0 m rfl (zB_mono hGm (by omega)) hFm (by omega) (by exact hu) (by omega)
    · intro i s k m hd hGm hFm hi hu hs
      have w6 := (hFm 55 0 (2 * i).toNat (show ¬ ((55 = 54)) from by omega)).1
      have w7 := (hFm 55 0 (2 * i + 1).toNat (show ¬ ((55 = 54)) from by omega)).1
      have b1 : 0 ≤ m.1 34 0 30 ∧ m.1 34 0 30 ≤ 24 := hGm.1 34 _ rfl _ _
      refine ww_go 3 (pc' := 45) (L' := [(0, .inr (.inr (.inl (some (34, 0))))), (1, .inl i), (2, .inl s), (3, .inl k)]) (st' := [.inl (m.1 34 0 30), .inl k]) (m' := m) (o := some ((0 < 1))) rfl (show (0 < 1) from by omega) ?_
      refine ww_ic (t := 74) rfl rfl (by omega) (fun (h2 : m.1 34 0 30 ≤ k) => ?_) (fun (h2 : ¬ (m.1 34 0 30 ≤ k)) => ?_)
      · show wW (zK sc) zM254 74 [(0, .inr (.inr (.inl (some (34, 0))))), (1, .inl i), (2, .inl s), (3, .inl k)] [] _ _ _
        refine ww_go 4 (pc' := 80) (L' := [(0, .inr (.inr (.inl (some (34, 0))))), (1, .inl i), (2, .inl s), (3, .inl k)]) (st' := [.inl s, .inl i, .inr (.inr (.inl (some (54, 0))))]) (m' := m) (o := some ((0 < 1))) rfl (show (0 < 1) from by omega) ?_
        refine ww_if (t := 92) rfl rfl (by omega) (fun (h3 : s = 0) => ?_) (fun (h3 : ¬ (s = 0)) => ?_)
        · show wW (zK sc) zM254 92 [(0, .inr (.inr (.inl (some (34, 0))))), (1, .inl i), (2, .inl s), (3, .inl k)] [.inl i, .inr (.inr (.inl (some (54, 0))))] _ _ _
          refine ww_go 2 (pc' := 94) (L' := [(0, .inr (.inr (.inl (some (34, 0))))), (1, .inl i), (2, .inl s), (3, .inl k)]) (st' := []) (m' := wuI m 54 0 i.toNat ((-1))) (o := some ((0 < 1 ∧ 0 ≤ i ∧ i < ((56 : Nat) : Int)))) rfl (show (0 < 1 ∧ 0 ≤ i ∧ i < ((56 : Nat) : Int)) from by omega) ?_
          obtain ⟨m4, hm4⟩ : ∃ zq9 : wm, zq9 = wuI m 54 0 i.toNat ((-1)) := ⟨_, rfl⟩
          rw [← hm4]
          have hGm4 : zB c m4 := by rw [hm4]; exact zB_wI rfl (show (-1) ≤ ((-1) : Int) ∧ ((-1) : Int) ≤ 104 from by omega) hGm
          have hFm4 : zfr (fun k i j => (k = 54)) m0 m4 := by rw [hm4]; exact zfr_wI hFm (show (54 = 54) from rfl)
          have s5 : m4.1 54 0 i.toNat = ((-1) : Int) := by rw [hm4]; exact wuI_self
          refine ww_go 2 (pc' := 2) (L' := [(1, .inl (i + 1)), (0, .inr (.inr (.inl (some (34, 0))))), (2, .inl s), (3, .inl k)]) (st' := []) (m' := m4) (o := none) rfl trivial ?_
          refine ww_sub (L := [(0, .inr (.inr (.inl (some (34, 0))))), (1, .inl (i + 1))]) ⟨rfl, rfl, trivial⟩ rfl rfl ?_
          exact (ih _ (by omega)).1 (i + 1) m4 rfl (zB_mono hGm4 (by omega)) hFm4 (by omega) (by rw [hm4]; exact zUs_w hu (by omega) (by omega))
        · show wW (zK sc) zM254 83 [(0, .inr (.inr (.inl (some (34, 0))))), (1, .inl i), (2, .inl s), (3, .inl k)] [.inl i, .inr (.inr (.inl (some (54, 0))))] _ _ _
          have b6 : (-1) ≤ m.1 54 0 i.toNat ∧ m.1 54 0 i.toNat ≤ 104 := hGm.1 54 _ rfl _ _
          refine ww_go 6 (pc' := 94) (L' := [(0, .inr (.inr (.inl (some (34, 0))))), (1, .inl i), (2, .inl s), (3, .inl k)]) (st' := []) (m' := wuI m 54 0 i.toNat (m.1 54 0 i.toNat)) (o := some ((0 < 1) ∧ (0 < 1 ∧ 0 ≤ i ∧ i < ((56 : Nat) : Int)) ∧ (0 < 1 ∧ 0 ≤ i ∧ i < ((56 : Nat) : Int)))) rfl (show (0 < 1) ∧ (0 < 1 ∧ 0 ≤ i ∧ i < ((56 : Nat) : Int)) ∧ (0 < 1 ∧ 0 ≤ i ∧ i < ((56 : Nat) : Int)) from by omega) ?_
          obtain ⟨m7, hm7⟩ : ∃ zq9 : wm, zq9 = wuI m 54 0 i.toNat (m.1 54 0 i.toNat) := ⟨_, rfl⟩
          rw [← hm7]
          have hGm7 : zB c m7 := by rw [hm7]; exact zB_wI rfl (show (-1) ≤ m.1 54 0 i.toNat ∧ m.1 54 0 i.toNat ≤ 104 from by omega) hGm
          have hFm7 : zfr (fun k i j => (k = 54)) m0 m7 := by rw [hm7]; exact zfr_wI hFm (show (54 = 54) from rfl)
          have s8 : m7.1 54 0 i.toNat = m.1 54 0 i.toNat := by rw [hm7]; exact wuI_self
          refine ww_go 2 (pc' := 2) (L' := [(1, .inl (i + 1)), (0, .inr (.inr (.inl (some (34, 0))))), (2, .inl s), (3, .inl k)]) (st' := []) (m' := m7) (o := none) rfl trivial ?_
          refine ww_sub (L := [(0, .inr (.inr (.inl (some (34, 0))))), (1, .inl (i + 1))]) ⟨rfl, rfl, trivial⟩ rfl rfl ?_
          exact (ih _ (by omega)).1 (i + 1) m7 rfl (zB_mono hGm7 (by omega)) hFm7 (by omega) (by rw [hm7]; exact zUs_w hu (by omega) (by omega))
      · show wW (zK sc) zM254 48 [(0, .inr (.inr (.inl (some (34, 0))))), (1, .inl i), (2, .inl s), (3, .inl k)] [] _ _ _
        refine ww_go 1 (pc' := 49) (L' := [(0, .inr (.inr (.inl (some (34, 0))))), (1, .inl i), (2, .inl s), (3, .inl k)]) (st' := [.inl s]) (m' := m) (o := none) rfl trivial ?_
        refine ww_if (t := 62) rfl rfl (by omega) (fun (h9 : s ≠ 0) => ?_) (fun (h9 : ¬ (s ≠ 0)) => ?_)
        · show wW (zK sc) zM254 62 [(0, .inr (.inr (.inl (some (34, 0))))), (1, .inl i), (2, .inl s), (3, .inl k)] [] _ _ _
          refine ww_go 5 (pc' := 40) (L' := [(3, .inl (k + 1)), (2, .inl 1), (0, .inr (.inr (.inl (some (34, 0))))), (1, .inl i)]) (st' := []) (m' := m) (o := none) rfl trivial ?_
          refine ww_sub (L := [(0, .inr (.inr (.inl (some (34, 0))))), (1, .inl i), (2, .inl 1), (3, .inl (k + 1))]) ⟨rfl, rfl, rfl, rfl, trivial⟩ rfl rfl ?_
          exact (ih _ (by omega)).2 i 1 (k + 1) m rfl (zB_mono hGm (by omega)) hFm (by omega) (by exact hu) (by omega)
        · show wW (zK sc) zM254 52 [(0, .inr (.inr (.inl (some (34, 0))))), (1, .inl i), (2, .inl s), (3, .inl k)] [] _ _ _
          have b10 : 0 ≤ m.1 58 0 k.toNat ∧ m.1 58 0 k.toNat ≤ 55 := hGm.1 58 _ rfl _ _
          refine ww_go 5 (pc' := 59) (L' := [(0, .inr (.inr (.inl (some (34, 0))))), (1, .inl i), (2, .inl s), (3, .inl k)]) (st' := [.inl i, .inl (m.1 58 0 k.toNat)]) (m' := m) (o := some ((0 < 1) ∧ (0 < 1 ∧ 0 ≤ k ∧ k < ((24 : Nat) : Int)))) rfl (show (0 < 1) ∧ (0 < 1 ∧ 0 ≤ k ∧ k < ((24 : Nat) : Int)) from by omega) ?_
          refine ww_ic (t := 66) rfl rfl (by omega) (fun (h11 : m.1 58 0 k.toNat ≠ i) => ?_) (fun (h11 : ¬ (m.1 58 0 k.toNat ≠ i)) => ?_)
          · show wW (zK sc) zM254 66 [(0, .inr (.inr (.inl (some (34, 0))))), (1, .inl i), (2, .inl s), (3, .inl k)] [] _ _ _
            refine ww_go 4 (pc' := 40) (L' := [(3, .inl (k + 1)), (2, .inl 0), (0, .inr (.inr (.inl (some (34, 0))))), (1, .inl i)]) (st' := []) (m' := m) (o := none) rfl trivial ?_
            refine ww_sub (L := [(0, .inr (.inr (.inl (some (34, 0))))), (1, .inl i), (2, .inl 0), (3, .inl (k + 1))]) ⟨rfl, rfl, rfl, rfl, trivial⟩ rfl rfl ?_
            exact (ih _ (by omega)).2 i 0 (k + 1) m rfl (zB_mono hGm (by omega)) hFm (by omega) (by exact hu) (by omega)
          · show wW (zK sc) zM254 62 [(0, .inr (.inr (.inl (some (34, 0))))), (1, .inl i), (2, .inl s), (3, .inl k)] [] _ _ _
            refine ww_go 5 (pc' := 40) (L' := [(3, .inl (k + 1)), (2, .inl 1), (0, .inr (.inr (.inl (some (34, 0))))), (1, .inl i)]) (st' := []) (m' := m) (o := none) rfl trivial ?_
            refine ww_sub (L := [(0, .inr (.inr (.inl (some (34, 0))))), (1, .inl i), (2, .inl 1), (3, .inl (k + 1))]) ⟨rfl, rfl, rfl, rfl, trivial⟩ rfl rfl ?_
            exact (ih _ (by omega)).2 i 1 (k + 1) m rfl (zB_mono hGm (by omega)) hFm (by omega) (by exact hu) (by omega)
set_option maxRecDepth 8000 in
/-- Mo.unsize -/
theorem zs254 {sc : xSc} {n : Nat × Nat} {m0 : wm} {c : Int} (hc : 0 ≤ c ∧ c ≤ 1000000)  (hG : zB c m0) : wX (zK sc) 254 [.inr (.inr (.inl (some (34, 0))))] n m0 (wr (fun vv n1 m1 => vv = none ∧ n = n1 ∧ zB c m1 ∧ zfr (fun k i j => (k = 54)) m0 m1 ∧ (zUs m0 m1))) := by
  refine wX_of (N := zM254) rfl (Nat.le_of_ble_eq_true rfl) ?_
  show wW (zK sc) zM254 0 [(0, .inr (.inr (.inl (some (34, 0)))))] [] n m0 _
  have hF : zfr (fun k i j => (k = 54)) m0 m0 := zfr_rf
  refine ww_go 2 (pc' := 2) (L' := [(1, .inl 0), (0, .inr (.inr (.inl (some (34, 0)))))]) (st' := []) (m' := m0) (o := none) rfl trivial ?_
  refine ww_sub (L := [(0, .inr (.inr (.inl (some (34, 0))))), (1, .inl 0)]) ⟨rfl, rfl, trivial⟩ rfl rfl ?_
  exact (zs254_l2 hc hG _).1 0 m0 rfl (zB_mono hG (by omega)) hF (by omega) (by exact zUs_rf)
set_option maxRecDepth 8000 in
theorem zs201_l4 {sc : xSc} {n : Nat × Nat} {m : wm} {c : Int} (hc : 0 ≤ c ∧ c ≤ 1000000) (f : Int) (hG : zB c m) (h0 : 0 ≤ f ∧ f ≤ 7) : ∀ (d : Nat), ∀ (s : Int) (k : Int), (24 - k).toNat = d → (0 ≤ s ∧ s ≤ 1 ∧ 0 ≤ k ∧ k ≤ 24) → (s = 1 → zHit m (m.1 34 0 30) (7 * f) (7 * f + 6)) →  wW (zK sc) zM201 4 [(0, .inr (.inr (.inl (some (34, 0))))), (1, .inl f), (2, .inl s), (3, .inl k)] [] n m (wr (fun vv n1 m1 => ∃ r : Int, vv = some (.inl r) ∧ n = n1 ∧ m = m1 ∧ ((r = 1 ∧ zHit m (m.1 34 0 30) (7 * f) (7 * f + 6)) ∨ r = 0))) := by
  intro d
  induction d using Nat.strongRecOn with
  | ind d ih =>
    intro s k hd hi he
    have b1 : 0 ≤ m.1 34 0 30 ∧ m.1 34 0 30 ≤ 24 := hG.1 34 _ rfl _ _
    refine ww_go 3 (pc' := 9) (L' := [(0, .inr (.inr (.inl (some (34, 0))))), (1, .inl f), (2, .inl s), (3, .inl k)]) (st' := [.inl (m.1 34 0 30), .inl k]) (m' := m) (o := some ((0 < 1))) rfl (show (0 < 1) from by omega) ?_
    refine ww_ic (t := 41) rfl rfl (by omega) (fun (h2 : m.1 34 0 30 ≤ k) => ?_) (fun (h2 : ¬ (m.1 34 0 30 ≤ k)) => ?_)
    · show wW (zK sc) zM201 41 [(0, .inr (.inr (.inl (some (34, 0))))), (1, .inl f), (2, .inl s), (3, .inl k)] [] _ _ _
      refine ww_go 1 (pc' := 42) (L' := [(0, .inr (.inr (.inl (some (34, 0))))), (1, .inl f), (2, .inl s), (3, .inl k)]) (st' := [.inl s]) (m' := m) (o := none) rfl trivial ?_
      exact ww_rB rfl rfl (by omega) ⟨_, rfl, rfl, rfl, by exact (show s = 0 ∨ s = 1 from by omega).elim (fun z => Or.inr z) (fun z => Or.inl ⟨z, he z⟩)⟩
    · show wW (zK sc) zM201 12 [(0, .inr (.inr (.inl (some (34, 0))))), (1, .inl f), (2, .inl s), (3, .inl k)] [] _ _ _
      refine ww_go 1 (pc' := 13) (L' := [(0, .inr (.inr (.inl (some (34, 0))))), (1, .inl f), (2, .inl s), (3, .inl k)]) (st' := [.inl s]) (m' := m) (o := none) rfl trivial ?_
      refine ww_if (t := 29) rfl rfl (by omega) (fun (h3 : s ≠ 0) => ?_) (fun (h3 : ¬ (s ≠ 0)) => ?_)
      · show wW (zK sc) zM201 29 [(0, .inr (.inr (.inl (some (34, 0))))), (1, .inl f), (2, .inl s), (3, .inl k)] [] _ _ _
        refine ww_go 5 (pc' := 4) (L' := [(3, .inl (k + 1)), (2, .inl 1), (0, .inr (.inr (.inl (some (34, 0))))), (1, .inl f)]) (st' := []) (m' := m) (o := none) rfl trivial ?_
        refine ww_sub (L := [(0, .inr (.inr (.inl (some (34, 0))))), (1, .inl f), (2, .inl 1), (3, .inl (k + 1))]) ⟨rfl, rfl, rfl, rfl, trivial⟩ rfl rfl ?_
        exact (ih _ (by omega)) 1 (k + 1) rfl (by omega) (by first | (intro z; omega) | exact fun _ => he (by omega) | exact fun _ => ⟨k, by omega, by omega, by omega, by omega⟩)
      · show wW (zK sc) zM201 16 [(0, .inr (.inr (.inl (some (34, 0))))), (1, .inl f), (2, .inl s), (3, .inl k)] [] _ _ _
        have b4 : 0 ≤ m.1 58 0 k.toNat ∧ m.1 58 0 k.toNat ≤ 55 := hG.1 58 _ rfl _ _
        have t5 : (0 ≤ (m.1 58 0 k.toNat) → (m.1 58 0 k.toNat).tdiv 7 = (m.1 58 0 k.toNat) / 7) ∧ ((m.1 58 0 k.toNat) < 0 → (m.1 58 0 k.toNat).tdiv 7 = -((-((m.1 58 0 k.toNat))) / 7)) := ⟨fun z => Int.tdiv_eq_ediv_of_nonneg z, fun z => wtdiv_neg z⟩
        refine ww_go 7 (pc' := 26) (L' := [(0, .inr (.inr (.inl (some (34, 0))))), (1, .inl f), (2, .inl s), (3, .inl k)]) (st' := [.inl f, .inl ((m.1 58 0 k.toNat).tdiv 7)]) (m' := m) (o := some ((0 < 1) ∧ (0 < 1 ∧ 0 ≤ k ∧ k < ((24 : Nat) : Int)) ∧ (-2147483648 ≤ m.1 58 0 k.toNat ∧ m.1 58 0 k.toNat ≤ 2147483647 ∧ 0 < (7 : Int) ∧ (7 : Int) ≤ 2147483647))) rfl (show (0 < 1) ∧ (0 < 1 ∧ 0 ≤ k ∧ k < ((24 : Nat) : Int)) ∧ (-2147483648 ≤ m.1 58 0 k.toNat ∧ m.1 58 0 k.toNat ≤ 2147483647 ∧ 0 < (7 : Int) ∧ (7 : Int) ≤ 2147483647) from by omega) ?_
        refine ww_ic (t := 33) rfl rfl (by omega) (fun (h6 : (m.1 58 0 k.toNat).tdiv 7 ≠ f) => ?_) (fun (h6 : ¬ ((m.1 58 0 k.toNat).tdiv 7 ≠ f)) => ?_)
        · show wW (zK sc) zM201 33 [(0, .inr (.inr (.inl (some (34, 0))))), (1, .inl f), (2, .inl s), (3, .inl k)] [] _ _ _
          refine ww_go 4 (pc' := 4) (L' := [(3, .inl (k + 1)), (2, .inl 0), (0, .inr (.inr (.inl (some (34, 0))))), (1, .inl f)]) (st' := []) (m' := m) (o := none) rfl trivial ?_
          refine ww_sub (L := [(0, .inr (.inr (.inl (some (34, 0))))), (1, .inl f), (2, .inl 0), (3, .inl (k + 1))]) ⟨rfl, rfl, rfl, rfl, trivial⟩ rfl rfl ?_
          exact (ih _ (by omega)) 0 (k + 1) rfl (by omega) (by first | (intro z; omega) | exact fun _ => he (by omega) | exact fun _ => ⟨k, by omega, by omega, by omega, by omega⟩)
        · show wW (zK sc) zM201 29 [(0, .inr (.inr (.inl (some (34, 0))))), (1, .inl f), (2, .inl s), (3, .inl k)] [] _ _ _
          refine ww_go 5 (pc' := 4) (L' := [(3, .inl (k + 1)), (2, .inl 1), (0, .inr (.inr (.inl (some (34, 0))))), (1, .inl f)]) (st' := []) (m' := m) (o := none) rfl trivial ?_
          refine ww_sub (L := [(0, .inr (.inr (.inl (some (34, 0))))), (1, .inl f), (2, .inl 1), (3, .inl (k + 1))]) ⟨rfl, rfl, rfl, rfl, trivial⟩ rfl rfl ?_
          exact (ih _ (by omega)) 1 (k + 1) rfl (by omega) (by first | (intro z; omega) | exact fun _ => he (by omega) | exact fun _ => ⟨k, by omega, by omega, by omega, by omega⟩)
set_option maxRecDepth 8000 in
/-- Mo.hasRows -/
theorem zs201 {sc : xSc} {n : Nat × Nat} {m : wm} {c : Int} (hc : 0 ≤ c ∧ c ≤ 1000000) (f : Int) (hG : zB c m) (h0 : 0 ≤ f ∧ f ≤ 7) : wX (zK sc) 201 [.inr (.inr (.inl (some (34, 0)))), .inl f] n m (wr (fun vv n1 m1 => ∃ r : Int, vv = some (.inl r) ∧ n = n1 ∧ m = m1 ∧ ((r = 1 ∧ zHit m (m.1 34 0 30) (7 * f) (7 * f + 6)) ∨ r = 0))) := by
  refine wX_of (N := zM201) rfl (Nat.le_of_ble_eq_true rfl) ?_
  show wW (zK sc) zM201 0 [(0, .inr (.inr (.inl (some (34, 0))))), (1, .inl f)] [] n m _
  refine ww_go 4 (pc' := 4) (L' := [(3, .inl 0), (2, .inl 0), (0, .inr (.inr (.inl (some (34, 0))))), (1, .inl f)]) (st' := []) (m' := m) (o := none) rfl trivial ?_
  refine ww_sub (L := [(0, .inr (.inr (.inl (some (34, 0))))), (1, .inl f), (2, .inl 0), (3, .inl 0)]) ⟨rfl, rfl, rfl, rfl, trivial⟩ rfl rfl ?_
  exact (zs201_l4 hc f hG h0 _) 0 0 rfl (by omega) (by first | (intro z; omega) | exact fun _ => he (by omega) | exact fun _ => ⟨k, by omega, by omega, by omega, by omega⟩)
