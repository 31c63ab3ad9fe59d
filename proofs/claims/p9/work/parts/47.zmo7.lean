set_option maxRecDepth 8000 in
theorem zs208_l19 {sc : xSc} {n : Nat × Nat} {m : wm} {c : Int} (hc : 0 ≤ c ∧ c ≤ 1000000) (q : Int) (x : Int) (y : Int) (hG : zB c m) (h0 : 0 ≤ q ∧ q ≤ 49 ∧ 0 ≤ x ∧ x ≤ 104 ∧ 0 ≤ y ∧ y ≤ 104) : ∀ (d : Nat), ∀ (a : Int) (b : Int) (k : Int), (256 - k).toNat = d → (0 ≤ a ∧ a ≤ 255 ∧ 0 ≤ b ∧ b ≤ 255 ∧ 1 ≤ k ∧ k ≤ 256) →  wW (zK sc) zM208 19 [(0, .inr (.inr (.inl (some (34, 0))))), (1, .inl q), (2, .inl x), (3, .inl y), (4, .inl a), (5, .inl b), (6, .inl k)] [] n m (wr (fun vv n1 m1 => ∃ r : Int, vv = some (.inl r) ∧ n = n1 ∧ m = m1 ∧ (0 ≤ r ∧ r ≤ 1))) := by
  intro d
  induction d using Nat.strongRecOn with
  | ind d ih =>
    intro a b k hd hi
    refine ww_go 2 (pc' := 23) (L' := [(0, .inr (.inr (.inl (some (34, 0))))), (1, .inl q), (2, .inl x), (3, .inl y), (4, .inl a), (5, .inl b), (6, .inl k)]) (st' := [.inl a, .inl k]) (m' := m) (o := none) rfl trivial ?_
    refine ww_ic (t := 87) rfl rfl (by omega) (fun (h1 : a < k) => ?_) (fun (h1 : ¬ (a < k)) => ?_)
    · show wW (zK sc) zM208 87 [(0, .inr (.inr (.inl (some (34, 0))))), (1, .inl q), (2, .inl x), (3, .inl y), (4, .inl a), (5, .inl b), (6, .inl k)] [] _ _ _
      refine ww_go 2 (pc' := 91) (L' := [(0, .inr (.inr (.inl (some (34, 0))))), (1, .inl q), (2, .inl x), (3, .inl y), (4, .inl a), (5, .inl b), (6, .inl k)]) (st' := [.inl b, .inl a]) (m' := m) (o := none) rfl trivial ?_
      refine ww_ic (t := 98) rfl rfl (by omega) (fun (h2 : b ≤ a) => ?_) (fun (h2 : ¬ (b ≤ a)) => ?_)
      · show wW (zK sc) zM208 98 [(0, .inr (.inr (.inl (some (34, 0))))), (1, .inl q), (2, .inl x), (3, .inl y), (4, .inl a), (5, .inl b), (6, .inl k)] [] _ _ _
        refine ww_go 1 (pc' := 99) (L' := [(0, .inr (.inr (.inl (some (34, 0))))), (1, .inl q), (2, .inl x), (3, .inl y), (4, .inl a), (5, .inl b), (6, .inl k)]) (st' := [.inl 0]) (m' := m) (o := none) rfl trivial ?_
        exact ww_rB rfl rfl (by omega) ⟨_, rfl, rfl, rfl, by omega⟩
      · show wW (zK sc) zM208 94 [(0, .inr (.inr (.inl (some (34, 0))))), (1, .inl q), (2, .inl x), (3, .inl y), (4, .inl a), (5, .inl b), (6, .inl k)] [] _ _ _
        refine ww_go 2 (pc' := 99) (L' := [(0, .inr (.inr (.inl (some (34, 0))))), (1, .inl q), (2, .inl x), (3, .inl y), (4, .inl a), (5, .inl b), (6, .inl k)]) (st' := [.inl 1]) (m' := m) (o := none) rfl trivial ?_
        exact ww_rB rfl rfl (by omega) ⟨_, rfl, rfl, rfl, by omega⟩
    · show wW (zK sc) zM208 26 [(0, .inr (.inr (.inl (some (34, 0))))), (1, .inl q), (2, .inl x), (3, .inl y), (4, .inl a), (5, .inl b), (6, .inl k)] [] _ _ _
      refine ww_go 2 (pc' := 30) (L' := [(0, .inr (.inr (.inl (some (34, 0))))), (1, .inl q), (2, .inl x), (3, .inl y), (4, .inl a), (5, .inl b), (6, .inl k)]) (st' := [.inl b, .inl k]) (m' := m) (o := none) rfl trivial ?_
      refine ww_ic (t := 87) rfl rfl (by omega) (fun (h3 : b < k) => ?_) (fun (h3 : ¬ (b < k)) => ?_)
      · show wW (zK sc) zM208 87 [(0, .inr (.inr (.inl (some (34, 0))))), (1, .inl q), (2, .inl x), (3, .inl y), (4, .inl a), (5, .inl b), (6, .inl k)] [] _ _ _
        refine ww_go 2 (pc' := 91) (L' := [(0, .inr (.inr (.inl (some (34, 0))))), (1, .inl q), (2, .inl x), (3, .inl y), (4, .inl a), (5, .inl b), (6, .inl k)]) (st' := [.inl b, .inl a]) (m' := m) (o := none) rfl trivial ?_
        refine ww_ic (t := 98) rfl rfl (by omega) (fun (h4 : b ≤ a) => ?_) (fun (h4 : ¬ (b ≤ a)) => ?_)
        · show wW (zK sc) zM208 98 [(0, .inr (.inr (.inl (some (34, 0))))), (1, .inl q), (2, .inl x), (3, .inl y), (4, .inl a), (5, .inl b), (6, .inl k)] [] _ _ _
          refine ww_go 1 (pc' := 99) (L' := [(0, .inr (.inr (.inl (some (34, 0))))), (1, .inl q), (2, .inl x), (3, .inl y), (4, .inl a), (5, .inl b), (6, .inl k)]) (st' := [.inl 0]) (m' := m) (o := none) rfl trivial ?_
          exact ww_rB rfl rfl (by omega) ⟨_, rfl, rfl, rfl, by omega⟩
        · show wW (zK sc) zM208 94 [(0, .inr (.inr (.inl (some (34, 0))))), (1, .inl q), (2, .inl x), (3, .inl y), (4, .inl a), (5, .inl b), (6, .inl k)] [] _ _ _
          refine ww_go 2 (pc' := 99) (L' := [(0, .inr (.inr (.inl (some (34, 0))))), (1, .inl q), (2, .inl x), (3, .inl y), (4, .inl a), (5, .inl b), (6, .inl k)]) (st' := [.inl 1]) (m' := m) (o := none) rfl trivial ?_
          exact ww_rB rfl rfl (by omega) ⟨_, rfl, rfl, rfl, by omega⟩
      · show wW (zK sc) zM208 33 [(0, .inr (.inr (.inl (some (34, 0))))), (1, .inl q), (2, .inl x), (3, .inl y), (4, .inl a), (5, .inl b), (6, .inl k)] [] _ _ _
        refine ww_go 5 (pc' := 39) (L' := [(0, .inr (.inr (.inl (some (34, 0))))), (1, .inl q), (2, .inl x), (3, .inl y), (4, .inl a), (5, .inl b), (6, .inl k)]) (st' := [.inl (x + k), .inl q, .inr (.inr (.inl (some (34, 0))))]) (m' := m) (o := none) rfl trivial ?_
        refine ww_call (vs := [.inr (.inr (.inl (some (34, 0)))), .inl q, .inl (x + k)]) (r := []) (p := 0 < 1) rfl rfl rfl rfl (show 0 < 1 from by omega) (zs185 (c := c) (by omega) q (x + k) hG (by omega)) ?_
        rintro _ _ _ ⟨r5, rfl, rfl, rfl, hr6⟩
        show wW (zK sc) zM208 42 [(0, .inr (.inr (.inl (some (34, 0))))), (1, .inl q), (2, .inl x), (3, .inl y), (4, .inl a), (5, .inl b), (6, .inl k)] [.inl r5] _ _ _
        refine ww_go 5 (pc' := 48) (L' := [(0, .inr (.inr (.inl (some (34, 0))))), (1, .inl q), (2, .inl x), (3, .inl y), (4, .inl a), (5, .inl b), (6, .inl k)]) (st' := [.inl (y + k), .inl q, .inr (.inr (.inl (some (34, 0)))), .inl r5]) (m' := m) (o := none) rfl trivial ?_
        refine ww_call (vs := [.inr (.inr (.inl (some (34, 0)))), .inl q, .inl (y + k)]) (r := [.inl r5]) (p := 0 < 1) rfl rfl rfl rfl (show 0 < 1 from by omega) (zs185 (c := c) (by omega) q (y + k) hG (by omega)) ?_
        rintro _ _ _ ⟨r7, rfl, rfl, rfl, hr8⟩
        show wW (zK sc) zM208 51 [(0, .inr (.inr (.inl (some (34, 0))))), (1, .inl q), (2, .inl x), (3, .inl y), (4, .inl a), (5, .inl b), (6, .inl k)] [.inl r7, .inl r5] _ _ _
        refine ww_ic (t := 81) rfl rfl (by omega) (fun (h9 : r5 = r7) => ?_) (fun (h9 : ¬ (r5 = r7)) => ?_)
        · show wW (zK sc) zM208 81 [(0, .inr (.inr (.inl (some (34, 0))))), (1, .inl q), (2, .inl x), (3, .inl y), (4, .inl a), (5, .inl b), (6, .inl k)] [] _ _ _
          refine ww_go 2 (pc' := 19) (L' := [(6, .inl (k + 1)), (0, .inr (.inr (.inl (some (34, 0))))), (1, .inl q), (2, .inl x), (3, .inl y), (4, .inl a), (5, .inl b)]) (st' := []) (m' := m) (o := none) rfl trivial ?_
          refine ww_sub (L := [(0, .inr (.inr (.inl (some (34, 0))))), (1, .inl q), (2, .inl x), (3, .inl y), (4, .inl a), (5, .inl b), (6, .inl (k + 1))]) ⟨rfl, rfl, rfl, rfl, rfl, rfl, rfl, trivial⟩ rfl rfl ?_
          exact (ih _ (by omega)) a b (k + 1) rfl (by omega)
        · show wW (zK sc) zM208 54 [(0, .inr (.inr (.inl (some (34, 0))))), (1, .inl q), (2, .inl x), (3, .inl y), (4, .inl a), (5, .inl b), (6, .inl k)] [] _ _ _
          refine ww_go 5 (pc' := 60) (L' := [(0, .inr (.inr (.inl (some (34, 0))))), (1, .inl q), (2, .inl x), (3, .inl y), (4, .inl a), (5, .inl b), (6, .inl k)]) (st' := [.inl (x + k), .inl q, .inr (.inr (.inl (some (34, 0))))]) (m' := m) (o := none) rfl trivial ?_
          refine ww_call (vs := [.inr (.inr (.inl (some (34, 0)))), .inl q, .inl (x + k)]) (r := []) (p := 0 < 1) rfl rfl rfl rfl (show 0 < 1 from by omega) (zs185 (c := c) (by omega) q (x + k) hG (by omega)) ?_
          rintro _ _ _ ⟨r10, rfl, rfl, rfl, hr11⟩
          show wW (zK sc) zM208 63 [(0, .inr (.inr (.inl (some (34, 0))))), (1, .inl q), (2, .inl x), (3, .inl y), (4, .inl a), (5, .inl b), (6, .inl k)] [.inl r10] _ _ _
          refine ww_go 5 (pc' := 69) (L' := [(0, .inr (.inr (.inl (some (34, 0))))), (1, .inl q), (2, .inl x), (3, .inl y), (4, .inl a), (5, .inl b), (6, .inl k)]) (st' := [.inl (y + k), .inl q, .inr (.inr (.inl (some (34, 0)))), .inl r10]) (m' := m) (o := none) rfl trivial ?_
          refine ww_call (vs := [.inr (.inr (.inl (some (34, 0)))), .inl q, .inl (y + k)]) (r := [.inl r10]) (p := 0 < 1) rfl rfl rfl rfl (show 0 < 1 from by omega) (zs185 (c := c) (by omega) q (y + k) hG (by omega)) ?_
          rintro _ _ _ ⟨r12, rfl, rfl, rfl, hr13⟩
          show wW (zK sc) zM208 72 [(0, .inr (.inr (.inl (some (34, 0))))), (1, .inl q), (2, .inl x), (3, .inl y), (4, .inl a), (5, .inl b), (6, .inl k)] [.inl r12, .inl r10] _ _ _
          refine ww_ic (t := 79) rfl rfl (by omega) (fun (h14 : r12 ≤ r10) => ?_) (fun (h14 : ¬ (r12 ≤ r10)) => ?_)
          · show wW (zK sc) zM208 79 [(0, .inr (.inr (.inl (some (34, 0))))), (1, .inl q), (2, .inl x), (3, .inl y), (4, .inl a), (5, .inl b), (6, .inl k)] [] _ _ _
            refine ww_go 1 (pc' := 80) (L' := [(0, .inr (.inr (.inl (some (34, 0))))), (1, .inl q), (2, .inl x), (3, .inl y), (4, .inl a), (5, .inl b), (6, .inl k)]) (st' := [.inl 0]) (m' := m) (o := none) rfl trivial ?_
            exact ww_rB rfl rfl (by omega) ⟨_, rfl, rfl, rfl, by omega⟩
          · show wW (zK sc) zM208 75 [(0, .inr (.inr (.inl (some (34, 0))))), (1, .inl q), (2, .inl x), (3, .inl y), (4, .inl a), (5, .inl b), (6, .inl k)] [] _ _ _
            refine ww_go 2 (pc' := 80) (L' := [(0, .inr (.inr (.inl (some (34, 0))))), (1, .inl q), (2, .inl x), (3, .inl y), (4, .inl a), (5, .inl b), (6, .inl k)]) (st' := [.inl 1]) (m' := m) (o := none) rfl trivial ?_
            exact ww_rB rfl rfl (by omega) ⟨_, rfl, rfl, rfl, by omega⟩
set_option maxRecDepth 8000 in
/-- Mo.isBelow -/
theorem zs208 {sc : xSc} {n : Nat × Nat} {m : wm} {c : Int} (hc : 0 ≤ c ∧ c ≤ 1000000) (q : Int) (x : Int) (y : Int) (hG : zB c m) (h0 : 0 ≤ q ∧ q ≤ 49 ∧ 0 ≤ x ∧ x ≤ 104 ∧ 0 ≤ y ∧ y ≤ 104) : wX (zK sc) 208 [.inr (.inr (.inl (some (34, 0)))), .inl q, .inl x, .inl y] n m (wr (fun vv n1 m1 => ∃ r : Int, vv = some (.inl r) ∧ n = n1 ∧ m = m1 ∧ (0 ≤ r ∧ r ≤ 1))) := by
  refine wX_of (N := zM208) rfl (Nat.le_of_ble_eq_true rfl) ?_
  show wW (zK sc) zM208 0 [(0, .inr (.inr (.inl (some (34, 0))))), (1, .inl q), (2, .inl x), (3, .inl y)] [] n m _
  refine ww_go 3 (pc' := 3) (L' := [(0, .inr (.inr (.inl (some (34, 0))))), (1, .inl q), (2, .inl x), (3, .inl y)]) (st' := [.inl x, .inl q, .inr (.inr (.inl (some (34, 0))))]) (m' := m) (o := none) rfl trivial ?_
  refine ww_call (vs := [.inr (.inr (.inl (some (34, 0)))), .inl q, .inl x]) (r := []) (p := 0 < 1) rfl rfl rfl rfl (show 0 < 1 from by omega) (zs185 (c := c) (by omega) q x hG (by omega)) ?_
  rintro _ _ _ ⟨r1, rfl, rfl, rfl, hr2⟩
  show wW (zK sc) zM208 6 [(0, .inr (.inr (.inl (some (34, 0))))), (1, .inl q), (2, .inl x), (3, .inl y)] [.inl r1] _ _ _
  refine ww_go 4 (pc' := 11) (L' := [(4, .inl r1), (0, .inr (.inr (.inl (some (34, 0))))), (1, .inl q), (2, .inl x), (3, .inl y)]) (st' := [.inl y, .inl q, .inr (.inr (.inl (some (34, 0))))]) (m' := m) (o := none) rfl trivial ?_
  refine ww_call (vs := [.inr (.inr (.inl (some (34, 0)))), .inl q, .inl y]) (r := []) (p := 0 < 1) rfl rfl rfl rfl (show 0 < 1 from by omega) (zs185 (c := c) (by omega) q y hG (by omega)) ?_
  rintro _ _ _ ⟨r3, rfl, rfl, rfl, hr4⟩
  show wW (zK sc) zM208 14 [(4, .inl r1), (0, .inr (.inr (.inl (some (34, 0))))), (1, .inl q), (2, .inl x), (3, .inl y)] [.inl r3] _ _ _
  refine ww_go 3 (pc' := 19) (L' := [(6, .inl 1), (5, .inl r3), (4, .inl r1), (0, .inr (.inr (.inl (some (34, 0))))), (1, .inl q), (2, .inl x), (3, .inl y)]) (st' := []) (m' := m) (o := none) rfl trivial ?_
  refine ww_sub (L := [(0, .inr (.inr (.inl (some (34, 0))))), (1, .inl q), (2, .inl x), (3, .inl y), (4, .inl r1), (5, .inl r3), (6, .inl 1)]) ⟨rfl, rfl, rfl, rfl, rfl, rfl, rfl, trivial⟩ rfl rfl ?_
  exact (zs208_l19 hc q x y hG h0 _) r1 r3 1 rfl (by omega)
set_option maxRecDepth 8000 in
theorem zs211_l62 {sc : xSc} {n : Nat × Nat} {m : wm} {c : Int} (hc : 0 ≤ c ∧ c ≤ 1000000) (f : Int) (hG : zB c m) (h0 : 0 ≤ f ∧ f ≤ 7) : ∀ (d : Nat), (∀ (a : Int) (l : Int) (i : Int), (6 - i).toNat * 100 + 99 = d → (0 ≤ i ∧ i ≤ m.1 56 0 ((104 * (7 * f) + 2).toNat) ∧ m.1 56 0 ((104 * (7 * f) + 2).toNat) ≤ 6 ∧ 3 ≤ a ∧ a ≤ 104 ∧ 0 ≤ l ∧ l ≤ 104 ∧ 3 ≤ m.1 54 0 ((7 * f).toNat)) → (a = zat (zby m f) i.toNat) → (zMF i (zby m f)) →  wW (zK sc) zM211 62 [(0, .inr (.inr (.inl (some (34, 0))))), (1, .inl f), (2, .inl (7 * f)), (3, .inl a), (4, .inl l), (5, .inl i)] [] n m (wr (fun vv n1 m1 => ∃ r : Int, vv = some (.inl r) ∧ n = n1 ∧ m = m1 ∧ ((r = 1 ∧ zMF (m.1 56 0 ((104 * (7 * f) + 2).toNat)) (zby m f) ∧ m.1 56 0 ((104 * (7 * f) + 2).toNat) ≤ 6 ∧ 3 ≤ m.1 54 0 ((7 * f).toNat)) ∨ r = 0)))) ∧ (∀ (a : Int) (l : Int) (i : Int) (x : Int) (k : Int), (6 - i).toNat * 100 + (7 - k).toNat = d → (0 ≤ i ∧ i ≤ m.1 56 0 ((104 * (7 * f) + 2).toNat) ∧ m.1 56 0 ((104 * (7 * f) + 2).toNat) ≤ 6 ∧ 3 ≤ a ∧ a ≤ 104 ∧ 0 ≤ l ∧ l ≤ 104 ∧ 3 ≤ m.1 54 0 ((7 * f).toNat) ∧ i < m.1 56 0 ((104 * (7 * f) + 2).toNat) ∧ 1 ≤ x ∧ x ≤ 6 ∧ a + 10 + x ≤ m.1 54 0 ((7 * f).toNat) ∧ m.1 56 0 (104 * (7 * f) + (a + 1 + x)).toNat ≤ 96 ∧ 1 ≤ k ∧ k ≤ 7) → (a = zat (zby m f) i.toNat) → (zMF i (zby m f)) → (x = m.1 56 0 (104 * (7 * f) + a).toNat) →  wW (zK sc) zM211 141 [(0, .inr (.inr (.inl (some (34, 0))))), (1, .inl f), (2, .inl (7 * f)), (3, .inl a), (4, .inl l), (5, .inl i), (6, .inl x), (7, .inl k)] [] n m (wr (fun vv n1 m1 => ∃ r : Int, vv = some (.inl r) ∧ n = n1 ∧ m = m1 ∧ ((r = 1 ∧ zMF (m.1 56 0 ((104 * (7 * f) + 2).toNat)) (zby m f) ∧ m.1 56 0 ((104 * (7 * f) + 2).toNat) ≤ 6 ∧ 3 ≤ m.1 54 0 ((7 * f).toNat)) ∨ r = 0)))) := by
  intro d
  induction d using Nat.strongRecOn with
  | ind d ih =>
    refine ⟨?_, ?_⟩
    · intro a l i hd hi ha hM
      have bz : -1 ≤ m.1 54 0 ((7 * f).toNat) ∧ m.1 54 0 ((7 * f).toNat) ≤ 104 := hG.1 54 _ rfl _ _
      have bb : 0 ≤ m.1 56 0 ((104 * (7 * f) + 2).toNat) ∧ m.1 56 0 ((104 * (7 * f) + 2).toNat) ≤ 255 := hG.1 56 _ rfl _ _
      refine ww_go 4 (pc' := 67) (L' := [(0, .inr (.inr (.inl (some (34, 0))))), (1, .inl f), (2, .inl (7 * f)), (3, .inl a), (4, .inl l), (5, .inl i)]) (st' := [.inl 2, .inl (7 * f), .inr (.inr (.inl (some (34, 0)))), .inl i]) (m' := m) (o := none) rfl trivial ?_
      refine ww_call (vs := [.inr (.inr (.inl (some (34, 0)))), .inl (7 * f), .inl 2]) (r := [.inl i]) (p := 0 < 1) rfl rfl rfl rfl (show 0 < 1 from by omega) (zs185 (c := c) (by omega) (7 * f) 2 hG (by omega)) ?_
      rintro _ _ _ ⟨r1, rfl, rfl, rfl, hr2⟩
      show wW (zK sc) zM211 70 [(0, .inr (.inr (.inl (some (34, 0))))), (1, .inl f), (2, .inl (7 * f)), (3, .inl a), (4, .inl l), (5, .inl i)] [.inl r1, .inl i] _ _ _
      refine ww_ic (t := 210) rfl rfl (by omega) (fun (h3 : r1 ≤ i) => ?_) (fun (h3 : ¬ (r1 ≤ i)) => ?_)
      · show wW (zK sc) zM211 210 [(0, .inr (.inr (.inl (some (34, 0))))), (1, .inl f), (2, .inl (7 * f)), (3, .inl a), (4, .inl l), (5, .inl i)] [] _ _ _
        have b4 : (-1) ≤ m.1 54 0 ((7 * f).toNat) ∧ m.1 54 0 ((7 * f).toNat) ≤ 104 := hG.1 54 _ rfl _ _
        refine ww_go 5 (pc' := 217) (L' := [(0, .inr (.inr (.inl (some (34, 0))))), (1, .inl f), (2, .inl (7 * f)), (3, .inl a), (4, .inl l), (5, .inl i)]) (st' := [.inl (m.1 54 0 ((7 * f).toNat)), .inl a]) (m' := m) (o := some ((0 < 1) ∧ (0 < 1 ∧ 0 ≤ 7 * f ∧ 7 * f < ((56 : Nat) : Int)))) rfl (show (0 < 1) ∧ (0 < 1 ∧ 0 ≤ 7 * f ∧ 7 * f < ((56 : Nat) : Int)) from by omega) ?_
        refine ww_ic (t := 224) rfl rfl (by omega) (fun (h5 : a ≠ m.1 54 0 ((7 * f).toNat)) => ?_) (fun (h5 : ¬ (a ≠ m.1 54 0 ((7 * f).toNat))) => ?_)
        · show wW (zK sc) zM211 224 [(0, .inr (.inr (.inl (some (34, 0))))), (1, .inl f), (2, .inl (7 * f)), (3, .inl a), (4, .inl l), (5, .inl i)] [] _ _ _
          refine ww_go 1 (pc' := 225) (L' := [(0, .inr (.inr (.inl (some (34, 0))))), (1, .inl f), (2, .inl (7 * f)), (3, .inl a), (4, .inl l), (5, .inl i)]) (st' := [.inl 0]) (m' := m) (o := none) rfl trivial ?_
          exact ww_rB rfl rfl (by omega) ⟨_, rfl, rfl, rfl, by exact Or.inr rfl⟩
        · show wW (zK sc) zM211 220 [(0, .inr (.inr (.inl (some (34, 0))))), (1, .inl f), (2, .inl (7 * f)), (3, .inl a), (4, .inl l), (5, .inl i)] [] _ _ _
          refine ww_go 2 (pc' := 225) (L' := [(0, .inr (.inr (.inl (some (34, 0))))), (1, .inl f), (2, .inl (7 * f)), (3, .inl a), (4, .inl l), (5, .inl i)]) (st' := [.inl 1]) (m' := m) (o := none) rfl trivial ?_
          exact ww_rB rfl rfl (by omega) ⟨_, rfl, rfl, rfl, by exact Or.inl ⟨rfl, by rw [show m.1 56 0 ((104 * (7 * f) + 2).toNat) = i by omega]; exact hM, by omega, by omega⟩⟩
      · show wW (zK sc) zM211 73 [(0, .inr (.inr (.inl (some (34, 0))))), (1, .inl f), (2, .inl (7 * f)), (3, .inl a), (4, .inl l), (5, .inl i)] [] _ _ _
        have b6 : (-1) ≤ m.1 54 0 ((7 * f).toNat) ∧ m.1 54 0 ((7 * f).toNat) ≤ 104 := hG.1 54 _ rfl _ _
        refine ww_go 5 (pc' := 80) (L' := [(0, .inr (.inr (.inl (some (34, 0))))), (1, .inl f), (2, .inl (7 * f)), (3, .inl a), (4, .inl l), (5, .inl i)]) (st' := [.inl (m.1 54 0 ((7 * f).toNat)), .inl a]) (m' := m) (o := some ((0 < 1) ∧ (0 < 1 ∧ 0 ≤ 7 * f ∧ 7 * f < ((56 : Nat) : Int)))) rfl (show (0 < 1) ∧ (0 < 1 ∧ 0 ≤ 7 * f ∧ 7 * f < ((56 : Nat) : Int)) from by omega) ?_
        refine ww_ic (t := 85) rfl rfl (by omega) (fun (h7 : a < m.1 54 0 ((7 * f).toNat)) => ?_) (fun (h7 : ¬ (a < m.1 54 0 ((7 * f).toNat))) => ?_)
        · show wW (zK sc) zM211 85 [(0, .inr (.inr (.inl (some (34, 0))))), (1, .inl f), (2, .inl (7 * f)), (3, .inl a), (4, .inl l), (5, .inl i)] [] _ _ _
          refine ww_go 3 (pc' := 88) (L' := [(0, .inr (.inr (.inl (some (34, 0))))), (1, .inl f), (2, .inl (7 * f)), (3, .inl a), (4, .inl l), (5, .inl i)]) (st' := [.inl a, .inl (7 * f), .inr (.inr (.inl (some (34, 0))))]) (m' := m) (o := none) rfl trivial ?_
          refine ww_call (vs := [.inr (.inr (.inl (some (34, 0)))), .inl (7 * f), .inl a]) (r := []) (p := 0 < 1) rfl rfl rfl rfl (show 0 < 1 from by omega) (zs185 (c := c) (by omega) (7 * f) a hG (by omega)) ?_
          rintro _ _ _ ⟨r8, rfl, rfl, rfl, hr9⟩
          show wW (zK sc) zM211 91 [(0, .inr (.inr (.inl (some (34, 0))))), (1, .inl f), (2, .inl (7 * f)), (3, .inl a), (4, .inl l), (5, .inl i)] [.inl r8] _ _ _
          refine ww_go 4 (pc' := 98) (L' := [(6, .inl r8), (0, .inr (.inr (.inl (some (34, 0))))), (1, .inl f), (2, .inl (7 * f)), (3, .inl a), (4, .inl l), (5, .inl i)]) (st' := [.inl 6, .inl 1, .inl r8]) (m' := m) (o := none) rfl trivial ?_
          refine ww_call (vs := [.inl r8, .inl 1, .inl 6]) (r := []) (p := True) rfl rfl rfl rfl trivial (zs207 r8 1 6 (by omega)) ?_
          rintro _ _ _ ⟨r10, rfl, rfl, rfl, hr11⟩
          show wW (zK sc) zM211 101 [(6, .inl r8), (0, .inr (.inr (.inl (some (34, 0))))), (1, .inl f), (2, .inl (7 * f)), (3, .inl a), (4, .inl l), (5, .inl i)] [.inl r10] _ _ _
          refine ww_if (t := 136) rfl rfl (by omega) (fun (h12 : r10 = 0) => ?_) (fun (h12 : ¬ (r10 = 0)) => ?_)
          · show wW (zK sc) zM211 136 [(6, .inl r8), (0, .inr (.inr (.inl (some (34, 0))))), (1, .inl f), (2, .inl (7 * f)), (3, .inl a), (4, .inl l), (5, .inl i)] [] _ _ _
            refine ww_go 1 (pc' := 137) (L' := [(6, .inl r8), (0, .inr (.inr (.inl (some (34, 0))))), (1, .inl f), (2, .inl (7 * f)), (3, .inl a), (4, .inl l), (5, .inl i)]) (st' := [.inl 0]) (m' := m) (o := none) rfl trivial ?_
            exact ww_rB rfl rfl (by omega) ⟨_, rfl, rfl, rfl, by exact Or.inr rfl⟩
          · show wW (zK sc) zM211 104 [(6, .inl r8), (0, .inr (.inr (.inl (some (34, 0))))), (1, .inl f), (2, .inl (7 * f)), (3, .inl a), (4, .inl l), (5, .inl i)] [] _ _ _
            have b13 : (-1) ≤ m.1 54 0 ((7 * f).toNat) ∧ m.1 54 0 ((7 * f).toNat) ≤ 104 := hG.1 54 _ rfl _ _
            refine ww_go 9 (pc' := 117) (L' := [(6, .inl r8), (0, .inr (.inr (.inl (some (34, 0))))), (1, .inl f), (2, .inl (7 * f)), (3, .inl a), (4, .inl l), (5, .inl i)]) (st' := [.inl (m.1 54 0 ((7 * f).toNat)), .inl ((a + 10) + r8)]) (m' := m) (o := some ((0 < 1) ∧ (0 < 1 ∧ 0 ≤ 7 * f ∧ 7 * f < ((56 : Nat) : Int)))) rfl (show (0 < 1) ∧ (0 < 1 ∧ 0 ≤ 7 * f ∧ 7 * f < ((56 : Nat) : Int)) from by omega) ?_
            refine ww_ic (t := 136) rfl rfl (by omega) (fun (h14 : m.1 54 0 ((7 * f).toNat) < (a + 10) + r8) => ?_) (fun (h14 : ¬ (m.1 54 0 ((7 * f).toNat) < (a + 10) + r8)) => ?_)
            · show wW (zK sc) zM211 136 [(6, .inl r8), (0, .inr (.inr (.inl (some (34, 0))))), (1, .inl f), (2, .inl (7 * f)), (3, .inl a), (4, .inl l), (5, .inl i)] [] _ _ _
              refine ww_go 1 (pc' := 137) (L' := [(6, .inl r8), (0, .inr (.inr (.inl (some (34, 0))))), (1, .inl f), (2, .inl (7 * f)), (3, .inl a), (4, .inl l), (5, .inl i)]) (st' := [.inl 0]) (m' := m) (o := none) rfl trivial ?_
              exact ww_rB rfl rfl (by omega) ⟨_, rfl, rfl, rfl, by exact Or.inr rfl⟩
            · show wW (zK sc) zM211 120 [(6, .inl r8), (0, .inr (.inr (.inl (some (34, 0))))), (1, .inl f), (2, .inl (7 * f)), (3, .inl a), (4, .inl l), (5, .inl i)] [] _ _ _
              refine ww_go 7 (pc' := 128) (L' := [(6, .inl r8), (0, .inr (.inr (.inl (some (34, 0))))), (1, .inl f), (2, .inl (7 * f)), (3, .inl a), (4, .inl l), (5, .inl i)]) (st' := [.inl ((a + 1) + r8), .inl (7 * f), .inr (.inr (.inl (some (34, 0))))]) (m' := m) (o := none) rfl trivial ?_
              refine ww_call (vs := [.inr (.inr (.inl (some (34, 0)))), .inl (7 * f), .inl ((a + 1) + r8)]) (r := []) (p := 0 < 1) rfl rfl rfl rfl (show 0 < 1 from by omega) (zs185 (c := c) (by omega) (7 * f) ((a + 1) + r8) hG (by omega)) ?_
              rintro _ _ _ ⟨r15, rfl, rfl, rfl, hr16⟩
              show wW (zK sc) zM211 131 [(6, .inl r8), (0, .inr (.inr (.inl (some (34, 0))))), (1, .inl f), (2, .inl (7 * f)), (3, .inl a), (4, .inl l), (5, .inl i)] [.inl r15] _ _ _
              refine ww_go 1 (pc' := 133) (L' := [(6, .inl r8), (0, .inr (.inr (.inl (some (34, 0))))), (1, .inl f), (2, .inl (7 * f)), (3, .inl a), (4, .inl l), (5, .inl i)]) (st' := [.inl 96, .inl r15]) (m' := m) (o := none) rfl trivial ?_
              refine ww_ic (t := 138) rfl rfl (by omega) (fun (h17 : r15 ≤ 96) => ?_) (fun (h17 : ¬ (r15 ≤ 96)) => ?_)
              · show wW (zK sc) zM211 138 [(6, .inl r8), (0, .inr (.inr (.inl (some (34, 0))))), (1, .inl f), (2, .inl (7 * f)), (3, .inl a), (4, .inl l), (5, .inl i)] [] _ _ _
                refine ww_go 2 (pc' := 141) (L' := [(7, .inl 1), (6, .inl r8), (0, .inr (.inr (.inl (some (34, 0))))), (1, .inl f), (2, .inl (7 * f)), (3, .inl a), (4, .inl l), (5, .inl i)]) (st' := []) (m' := m) (o := none) rfl trivial ?_
                refine ww_sub (L := [(0, .inr (.inr (.inl (some (34, 0))))), (1, .inl f), (2, .inl (7 * f)), (3, .inl a), (4, .inl l), (5, .inl i), (6, .inl r8), (7, .inl 1)]) ⟨rfl, rfl, rfl, rfl, rfl, rfl, rfl, rfl, trivial⟩ rfl rfl ?_
                exact (ih _ (by omega)).2 a l i r8 1 rfl (by omega) (by exact ha) (by exact hM) (by exact (hr9).1)
              · show wW (zK sc) zM211 136 [(6, .inl r8), (0, .inr (.inr (.inl (some (34, 0))))), (1, .inl f), (2, .inl (7 * f)), (3, .inl a), (4, .inl l), (5, .inl i)] [] _ _ _
                refine ww_go 1 (pc' := 137) (L' := [(6, .inl r8), (0, .inr (.inr (.inl (some (34, 0))))), (1, .inl f), (2, .inl (7 * f)), (3, .inl a), (4, .inl l), (5, .inl i)]) (st' := [.inl 0]) (m' := m) (o := none) rfl trivial ?_
                exact ww_rB rfl rfl (by omega) ⟨_, rfl, rfl, rfl, by exact Or.inr rfl⟩
        · show wW (zK sc) zM211 83 [(0, .inr (.inr (.inl (some (34, 0))))), (1, .inl f), (2, .inl (7 * f)), (3, .inl a), (4, .inl l), (5, .inl i)] [] _ _ _
          refine ww_go 1 (pc' := 84) (L' := [(0, .inr (.inr (.inl (some (34, 0))))), (1, .inl f), (2, .inl (7 * f)), (3, .inl a), (4, .inl l), (5, .inl i)]) (st' := [.inl 0]) (m' := m) (o := none) rfl trivial ?_
          exact ww_rB rfl rfl (by omega) ⟨_, rfl, rfl, rfl, by exact Or.inr rfl⟩
    · intro a l i x k hd hi ha hM hn
      have bz : -1 ≤ m.1 54 0 ((7 * f).toNat) ∧ m.1 54 0 ((7 * f).toNat) ≤ 104 := hG.1 54 _ rfl _ _
      have bb : 0 ≤ m.1 56 0 ((104 * (7 * f) + 2).toNat) ∧ m.1 56 0 ((104 * (7 * f) + 2).toNat) ≤ 255 := hG.1 56 _ rfl _ _
      refine ww_go 2 (pc' := 145) (L' := [(0, .inr (.inr (.inl (some (34, 0))))), (1, .inl f), (2, .inl (7 * f)), (3, .inl a), (4, .inl l), (5, .inl i), (6, .inl x), (7, .inl k)]) (st' := [.inl x, .inl k]) (m' := m) (o := none) rfl trivial ?_
      refine ww_ic (t := 175) rfl rfl (by omega) (fun (h1 : x < k) => ?_) (fun (h1 : ¬ (x < k)) => ?_)
      · show wW (zK sc) zM211 175 [(0, .inr (.inr (.inl (some (34, 0))))), (1, .inl f), (2, .inl (7 * f)), (3, .inl a), (4, .inl l), (5, .inl i), (6, .inl x), (7, .inl k)] [] _ _ _
        refine ww_go 1 (pc' := 177) (L' := [(0, .inr (.inr (.inl (some (34, 0))))), (1, .inl f), (2, .inl (7 * f)), (3, .inl a), (4, .inl l), (5, .inl i), (6, .inl x), (7, .inl k)]) (st' := [.inl i]) (m' := m) (o := none) rfl trivial ?_
        refine ww_if (t := 193) rfl rfl (by omega) (fun (h2 : i ≤ 0) => ?_) (fun (h2 : ¬ (i ≤ 0)) => ?_)
        · show wW (zK sc) zM211 193 [(0, .inr (.inr (.inl (some (34, 0))))), (1, .inl f), (2, .inl (7 * f)), (3, .inl a), (4, .inl l), (5, .inl i), (6, .inl x), (7, .inl k)] [] _ _ _
          refine ww_go 10 (pc' := 62) (L' := [(5, .inl (i + 1)), (3, .inl (a + (10 + x))), (4, .inl a), (0, .inr (.inr (.inl (some (34, 0))))), (1, .inl f), (2, .inl (7 * f)), (6, .inl x), (7, .inl k)]) (st' := []) (m' := m) (o := none) rfl trivial ?_
          refine ww_sub (L := [(0, .inr (.inr (.inl (some (34, 0))))), (1, .inl f), (2, .inl (7 * f)), (3, .inl (a + (10 + x))), (4, .inl a), (5, .inl (i + 1))]) ⟨rfl, rfl, rfl, rfl, rfl, rfl, trivial⟩ rfl rfl ?_
          exact (ih _ (by omega)).1 (a + (10 + x)) a (i + 1) rfl (by omega) (by exact (zman_s (by omega) ha hM hn rfl (by omega)).2) (by exact (zman_s (by omega) ha hM hn rfl (by omega)).1)
        · show wW (zK sc) zM211 180 [(0, .inr (.inr (.inl (some (34, 0))))), (1, .inl f), (2, .inl (7 * f)), (3, .inl a), (4, .inl l), (5, .inl i), (6, .inl x), (7, .inl k)] [] _ _ _
          refine ww_go 4 (pc' := 185) (L' := [(0, .inr (.inr (.inl (some (34, 0))))), (1, .inl f), (2, .inl (7 * f)), (3, .inl a), (4, .inl l), (5, .inl i), (6, .inl x), (7, .inl k)]) (st' := [.inl a, .inl l, .inl (7 * f), .inr (.inr (.inl (some (34, 0))))]) (m' := m) (o := none) rfl trivial ?_
          refine ww_call (vs := [.inr (.inr (.inl (some (34, 0)))), .inl (7 * f), .inl l, .inl a]) (r := []) (p := 0 < 1) rfl rfl rfl rfl (show 0 < 1 from by omega) (zs208 (c := c) (by omega) (7 * f) l a hG (by omega)) ?_
          rintro _ _ _ ⟨r3, rfl, rfl, rfl, hr4⟩
          show wW (zK sc) zM211 188 [(0, .inr (.inr (.inl (some (34, 0))))), (1, .inl f), (2, .inl (7 * f)), (3, .inl a), (4, .inl l), (5, .inl i), (6, .inl x), (7, .inl k)] [.inl r3] _ _ _
          refine ww_if (t := 193) rfl rfl (by omega) (fun (h5 : r3 ≠ 0) => ?_) (fun (h5 : ¬ (r3 ≠ 0)) => ?_)
          · show wW (zK sc) zM211 193 [(0, .inr (.inr (.inl (some (34, 0))))), (1, .inl f), (2, .inl (7 * f)), (3, .inl a), (4, .inl l), (5, .inl i), (6, .inl x), (7, .inl k)] [] _ _ _
            refine ww_go 10 (pc' := 62) (L' := [(5, .inl (i + 1)), (3, .inl (a + (10 + x))), (4, .inl a), (0, .inr (.inr (.inl (some (34, 0))))), (1, .inl f), (2, .inl (7 * f)), (6, .inl x), (7, .inl k)]) (st' := []) (m' := m) (o := none) rfl trivial ?_
            refine ww_sub (L := [(0, .inr (.inr (.inl (some (34, 0))))), (1, .inl f), (2, .inl (7 * f)), (3, .inl (a + (10 + x))), (4, .inl a), (5, .inl (i + 1))]) ⟨rfl, rfl, rfl, rfl, rfl, rfl, trivial⟩ rfl rfl ?_
            exact (ih _ (by omega)).1 (a + (10 + x)) a (i + 1) rfl (by omega) (by exact (zman_s (by omega) ha hM hn rfl (by omega)).2) (by exact (zman_s (by omega) ha hM hn rfl (by omega)).1)
          · show wW (zK sc) zM211 191 [(0, .inr (.inr (.inl (some (34, 0))))), (1, .inl f), (2, .inl (7 * f)), (3, .inl a), (4, .inl l), (5, .inl i), (6, .inl x), (7, .inl k)] [] _ _ _
            refine ww_go 1 (pc' := 192) (L' := [(0, .inr (.inr (.inl (some (34, 0))))), (1, .inl f), (2, .inl (7 * f)), (3, .inl a), (4, .inl l), (5, .inl i), (6, .inl x), (7, .inl k)]) (st' := [.inl 0]) (m' := m) (o := none) rfl trivial ?_
            exact ww_rB rfl rfl (by omega) ⟨_, rfl, rfl, rfl, by exact Or.inr rfl⟩
      · show wW (zK sc) zM211 148 [(0, .inr (.inr (.inl (some (34, 0))))), (1, .inl f), (2, .inl (7 * f)), (3, .inl a), (4, .inl l), (5, .inl i), (6, .inl x), (7, .inl k)] [] _ _ _
        refine ww_go 5 (pc' := 154) (L' := [(0, .inr (.inr (.inl (some (34, 0))))), (1, .inl f), (2, .inl (7 * f)), (3, .inl a), (4, .inl l), (5, .inl i), (6, .inl x), (7, .inl k)]) (st' := [.inl (a + k), .inl (7 * f), .inr (.inr (.inl (some (34, 0))))]) (m' := m) (o := none) rfl trivial ?_
        refine ww_call (vs := [.inr (.inr (.inl (some (34, 0)))), .inl (7 * f), .inl (a + k)]) (r := []) (p := 0 < 1) rfl rfl rfl rfl (show 0 < 1 from by omega) (zs185 (c := c) (by omega) (7 * f) (a + k) hG (by omega)) ?_
        rintro _ _ _ ⟨r6, rfl, rfl, rfl, hr7⟩
        show wW (zK sc) zM211 157 [(0, .inr (.inr (.inl (some (34, 0))))), (1, .inl f), (2, .inl (7 * f)), (3, .inl a), (4, .inl l), (5, .inl i), (6, .inl x), (7, .inl k)] [.inl r6] _ _ _
        refine ww_go 2 (pc' := 161) (L' := [(0, .inr (.inr (.inl (some (34, 0))))), (1, .inl f), (2, .inl (7 * f)), (3, .inl a), (4, .inl l), (5, .inl i), (6, .inl x), (7, .inl k)]) (st' := [.inl 126, .inl 33, .inl r6]) (m' := m) (o := none) rfl trivial ?_
        refine ww_call (vs := [.inl r6, .inl 33, .inl 126]) (r := []) (p := True) rfl rfl rfl rfl trivial (zs207 r6 33 126 (by omega)) ?_
        rintro _ _ _ ⟨r8, rfl, rfl, rfl, hr9⟩
        show wW (zK sc) zM211 164 [(0, .inr (.inr (.inl (some (34, 0))))), (1, .inl f), (2, .inl (7 * f)), (3, .inl a), (4, .inl l), (5, .inl i), (6, .inl x), (7, .inl k)] [.inl r8] _ _ _
        refine ww_if (t := 169) rfl rfl (by omega) (fun (h10 : r8 ≠ 0) => ?_) (fun (h10 : ¬ (r8 ≠ 0)) => ?_)
        · show wW (zK sc) zM211 169 [(0, .inr (.inr (.inl (some (34, 0))))), (1, .inl f), (2, .inl (7 * f)), (3, .inl a), (4, .inl l), (5, .inl i), (6, .inl x), (7, .inl k)] [] _ _ _
          refine ww_go 2 (pc' := 141) (L' := [(7, .inl (k + 1)), (0, .inr (.inr (.inl (some (34, 0))))), (1, .inl f), (2, .inl (7 * f)), (3, .inl a), (4, .inl l), (5, .inl i), (6, .inl x)]) (st' := []) (m' := m) (o := none) rfl trivial ?_
          refine ww_sub (L := [(0, .inr (.inr (.inl (some (34, 0))))), (1, .inl f), (2, .inl (7 * f)), (3, .inl a), (4, .inl l), (5, .inl i), (6, .inl x), (7, .inl (k + 1))]) ⟨rfl, rfl, rfl, rfl, rfl, rfl, rfl, rfl, trivial⟩ rfl rfl ?_
          exact (ih _ (by omega)).2 a l i x (k + 1) rfl (by omega) (by exact ha) (by exact hM) (by exact hn)
        · show wW (zK sc) zM211 167 [(0, .inr (.inr (.inl (some (34, 0))))), (1, .inl f), (2, .inl (7 * f)), (3, .inl a), (4, .inl l), (5, .inl i), (6, .inl x), (7, .inl k)] [] _ _ _
          refine ww_go 1 (pc' := 168) (L' := [(0, .inr (.inr (.inl (some (34, 0))))), (1, .inl f), (2, .inl (7 * f)), (3, .inl a), (4, .inl l), (5, .inl i), (6, .inl x), (7, .inl k)]) (st' := [.inl 0]) (m' := m) (o := none) rfl trivial ?_
          exact ww_rB rfl rfl (by omega) ⟨_, rfl, rfl, rfl, by exact Or.inr rfl⟩
set_option maxRecDepth 8000 in
/-- Mo.isManifest -/
theorem zs211 {sc : xSc} {n : Nat × Nat} {m : wm} {c : Int} (hc : 0 ≤ c ∧ c ≤ 1000000) (f : Int) (hG : zB c m) (h0 : 0 ≤ f ∧ f ≤ 7) : wX (zK sc) 211 [.inr (.inr (.inl (some (34, 0)))), .inl f] n m (wr (fun vv n1 m1 => ∃ r : Int, vv = some (.inl r) ∧ n = n1 ∧ m = m1 ∧ ((r = 1 ∧ zMF (m.1 56 0 ((104 * (7 * f) + 2).toNat)) (zby m f) ∧ m.1 56 0 ((104 * (7 * f) + 2).toNat) ≤ 6 ∧ 3 ≤ m.1 54 0 ((7 * f).toNat)) ∨ r = 0))) := by
  refine wX_of (N := zM211) rfl (Nat.le_of_ble_eq_true rfl) ?_
  show wW (zK sc) zM211 0 [(0, .inr (.inr (.inl (some (34, 0))))), (1, .inl f)] [] n m _
  have bz : -1 ≤ m.1 54 0 ((7 * f).toNat) ∧ m.1 54 0 ((7 * f).toNat) ≤ 104 := hG.1 54 _ rfl _ _
  have bb : 0 ≤ m.1 56 0 ((104 * (7 * f) + 2).toNat) ∧ m.1 56 0 ((104 * (7 * f) + 2).toNat) ≤ 255 := hG.1 56 _ rfl _ _
  have b1 : (-1) ≤ m.1 54 0 ((7 * f).toNat) ∧ m.1 54 0 ((7 * f).toNat) ≤ 104 := hG.1 54 _ rfl _ _
  refine ww_go 9 (pc' := 12) (L' := [(2, .inl (7 * f)), (0, .inr (.inr (.inl (some (34, 0))))), (1, .inl f)]) (st' := [.inl 3, .inl (m.1 54 0 ((7 * f).toNat))]) (m' := m) (o := some ((0 < 1) ∧ (0 < 1 ∧ 0 ≤ 7 * f ∧ 7 * f < ((56 : Nat) : Int)))) rfl (show (0 < 1) ∧ (0 < 1 ∧ 0 ≤ 7 * f ∧ 7 * f < ((56 : Nat) : Int)) from by omega) ?_
  refine ww_ic (t := 52) rfl rfl (by omega) (fun (h2 : m.1 54 0 ((7 * f).toNat) < 3) => ?_) (fun (h2 : ¬ (m.1 54 0 ((7 * f).toNat) < 3)) => ?_)
  · show wW (zK sc) zM211 52 [(2, .inl (7 * f)), (0, .inr (.inr (.inl (some (34, 0))))), (1, .inl f)] [] _ _ _
    refine ww_go 1 (pc' := 53) (L' := [(2, .inl (7 * f)), (0, .inr (.inr (.inl (some (34, 0))))), (1, .inl f)]) (st' := [.inl 0]) (m' := m) (o := none) rfl trivial ?_
    exact ww_rB rfl rfl (by omega) ⟨_, rfl, rfl, rfl, by exact Or.inr rfl⟩
  · show wW (zK sc) zM211 15 [(2, .inl (7 * f)), (0, .inr (.inr (.inl (some (34, 0))))), (1, .inl f)] [] _ _ _
    refine ww_go 4 (pc' := 21) (L' := [(2, .inl (7 * f)), (0, .inr (.inr (.inl (some (34, 0))))), (1, .inl f)]) (st' := [.inl 0, .inl (7 * f), .inr (.inr (.inl (some (34, 0)))), .inl 256]) (m' := m) (o := none) rfl trivial ?_
    refine ww_call (vs := [.inr (.inr (.inl (some (34, 0)))), .inl (7 * f), .inl 0]) (r := [.inl 256]) (p := 0 < 1) rfl rfl rfl rfl (show 0 < 1 from by omega) (zs185 (c := c) (by omega) (7 * f) 0 hG (by omega)) ?_
    rintro _ _ _ ⟨r3, rfl, rfl, rfl, hr4⟩
    show wW (zK sc) zM211 24 [(2, .inl (7 * f)), (0, .inr (.inr (.inl (some (34, 0))))), (1, .inl f)] [.inl r3, .inl 256] _ _ _
    refine ww_go 4 (pc' := 28) (L' := [(2, .inl (7 * f)), (0, .inr (.inr (.inl (some (34, 0))))), (1, .inl f)]) (st' := [.inl 1, .inl (7 * f), .inr (.inr (.inl (some (34, 0)))), .inl (256 * r3)]) (m' := m) (o := none) rfl trivial ?_
    refine ww_call (vs := [.inr (.inr (.inl (some (34, 0)))), .inl (7 * f), .inl 1]) (r := [.inl (256 * r3)]) (p := 0 < 1) rfl rfl rfl rfl (show 0 < 1 from by omega) (zs185 (c := c) (by omega) (7 * f) 1 hG (by omega)) ?_
    rintro _ _ _ ⟨r5, rfl, rfl, rfl, hr6⟩
    show wW (zK sc) zM211 31 [(2, .inl (7 * f)), (0, .inr (.inr (.inl (some (34, 0))))), (1, .inl f)] [.inl r5, .inl (256 * r3)] _ _ _
    have b7 : 0 ≤ m.1 50 0 f.toNat ∧ m.1 50 0 f.toNat ≤ 65535 := hG.1 50 _ rfl _ _
    refine ww_go 5 (pc' := 38) (L' := [(2, .inl (7 * f)), (0, .inr (.inr (.inl (some (34, 0))))), (1, .inl f)]) (st' := [.inl (m.1 50 0 f.toNat), .inl ((256 * r3) + r5)]) (m' := m) (o := some ((0 < 1) ∧ (0 < 1 ∧ 0 ≤ f ∧ f < ((8 : Nat) : Int)))) rfl (show (0 < 1) ∧ (0 < 1 ∧ 0 ≤ f ∧ f < ((8 : Nat) : Int)) from by omega) ?_
    refine ww_ic (t := 52) rfl rfl (by omega) (fun (h8 : (256 * r3) + r5 ≠ m.1 50 0 f.toNat) => ?_) (fun (h8 : ¬ ((256 * r3) + r5 ≠ m.1 50 0 f.toNat)) => ?_)
    · show wW (zK sc) zM211 52 [(2, .inl (7 * f)), (0, .inr (.inr (.inl (some (34, 0))))), (1, .inl f)] [] _ _ _
      refine ww_go 1 (pc' := 53) (L' := [(2, .inl (7 * f)), (0, .inr (.inr (.inl (some (34, 0))))), (1, .inl f)]) (st' := [.inl 0]) (m' := m) (o := none) rfl trivial ?_
      exact ww_rB rfl rfl (by omega) ⟨_, rfl, rfl, rfl, by exact Or.inr rfl⟩
    · show wW (zK sc) zM211 41 [(2, .inl (7 * f)), (0, .inr (.inr (.inl (some (34, 0))))), (1, .inl f)] [] _ _ _
      refine ww_go 3 (pc' := 44) (L' := [(2, .inl (7 * f)), (0, .inr (.inr (.inl (some (34, 0))))), (1, .inl f)]) (st' := [.inl 2, .inl (7 * f), .inr (.inr (.inl (some (34, 0))))]) (m' := m) (o := none) rfl trivial ?_
      refine ww_call (vs := [.inr (.inr (.inl (some (34, 0)))), .inl (7 * f), .inl 2]) (r := []) (p := 0 < 1) rfl rfl rfl rfl (show 0 < 1 from by omega) (zs185 (c := c) (by omega) (7 * f) 2 hG (by omega)) ?_
      rintro _ _ _ ⟨r9, rfl, rfl, rfl, hr10⟩
      show wW (zK sc) zM211 47 [(2, .inl (7 * f)), (0, .inr (.inr (.inl (some (34, 0))))), (1, .inl f)] [.inl r9] _ _ _
      refine ww_go 1 (pc' := 49) (L' := [(2, .inl (7 * f)), (0, .inr (.inr (.inl (some (34, 0))))), (1, .inl f)]) (st' := [.inl 6, .inl r9]) (m' := m) (o := none) rfl trivial ?_
      refine ww_ic (t := 54) rfl rfl (by omega) (fun (h11 : r9 ≤ 6) => ?_) (fun (h11 : ¬ (r9 ≤ 6)) => ?_)
      · show wW (zK sc) zM211 54 [(2, .inl (7 * f)), (0, .inr (.inr (.inl (some (34, 0))))), (1, .inl f)] [] _ _ _
        refine ww_go 6 (pc' := 62) (L' := [(5, .inl 0), (4, .inl 0), (3, .inl 3), (2, .inl (7 * f)), (0, .inr (.inr (.inl (some (34, 0))))), (1, .inl f)]) (st' := []) (m' := m) (o := none) rfl trivial ?_
        refine ww_sub (L := [(0, .inr (.inr (.inl (some (34, 0))))), (1, .inl f), (2, .inl (7 * f)), (3, .inl 3), (4, .inl 0), (5, .inl 0)]) ⟨rfl, rfl, rfl, rfl, rfl, rfl, trivial⟩ rfl rfl ?_
        exact (zs211_l62 hc f hG h0 _).1 3 0 0 rfl (by omega) (by rfl) (by exact zMF_0)
      · show wW (zK sc) zM211 52 [(2, .inl (7 * f)), (0, .inr (.inr (.inl (some (34, 0))))), (1, .inl f)] [] _ _ _
        refine ww_go 1 (pc' := 53) (L' := [(2, .inl (7 * f)), (0, .inr (.inr (.inl (some (34, 0))))), (1, .inl f)]) (st' := [.inl 0]) (m' := m) (o := none) rfl trivial ?_
        exact ww_rB rfl rfl (by omega) ⟨_, rfl, rfl, rfl, by exact Or.inr rfl⟩
set_option maxRecDepth 8000 in
/-- Mo.sizeTold -/
theorem zs245 {sc : xSc} {n : Nat × Nat} {m : wm} {c : Int} (hc : 0 ≤ c ∧ c ≤ 1000000) (f : Int) (i : Int) (x : Int) (hG : zB c m) (h0 : 0 ≤ f ∧ f ≤ 7 ∧ 1 ≤ i ∧ i ≤ x ∧ x ≤ 6) (hM : zMF x (zby m f)) : wX (zK sc) 245 [.inr (.inr (.inl (some (34, 0)))), .inl f, .inl i] n m (wr (fun vv n1 m1 => ∃ r : Int, vv = some (.inl r) ∧ n = n1 ∧ m = m1 ∧ (0 ≤ r ∧ r ≤ 96))) := by
  refine wX_of (N := zM245) rfl (Nat.le_of_ble_eq_true rfl) ?_
  show wW (zK sc) zM245 0 [(0, .inr (.inr (.inl (some (34, 0))))), (1, .inl f), (2, .inl i)] [] n m _
  refine ww_go 5 (pc' := 5) (L' := [(0, .inr (.inr (.inl (some (34, 0))))), (1, .inl f), (2, .inl i)]) (st' := [.inl (i - 1), .inl f, .inr (.inr (.inl (some (34, 0))))]) (m' := m) (o := none) rfl trivial ?_
  refine ww_call (vs := [.inr (.inr (.inl (some (34, 0)))), .inl f, .inl (i - 1)]) (r := []) (p := 0 < 1) rfl rfl rfl rfl (show 0 < 1 from by omega) (zs249 (c := c) (by omega) f (i - 1) _ hG (by omega) hM) ?_
  rintro _ _ _ ⟨r1, rfl, rfl, rfl, hr2⟩
  show wW (zK sc) zM245 8 [(0, .inr (.inr (.inl (some (34, 0))))), (1, .inl f), (2, .inl i)] [.inl r1] _ _ _
  refine ww_go 13 (pc' := 23) (L' := [(3, .inl r1), (0, .inr (.inr (.inl (some (34, 0))))), (1, .inl f), (2, .inl i)]) (st' := [.inl r1, .inl (7 * f), .inr (.inr (.inl (some (34, 0)))), .inl (r1 + 1), .inl (7 * f), .inr (.inr (.inl (some (34, 0))))]) (m' := m) (o := none) rfl trivial ?_
  refine ww_call (vs := [.inr (.inr (.inl (some (34, 0)))), .inl (7 * f), .inl r1]) (r := [.inl (r1 + 1), .inl (7 * f), .inr (.inr (.inl (some (34, 0))))]) (p := 0 < 1) rfl rfl rfl rfl (show 0 < 1 from by omega) (zs185 (c := c) (by omega) (7 * f) r1 hG (by omega)) ?_
  rintro _ _ _ ⟨r3, rfl, rfl, rfl, hr4⟩
  have z5 := zMF_n (i := i - 1) hM (hr2).1 (hr4).1 (by omega)
  show wW (zK sc) zM245 26 [(3, .inl r1), (0, .inr (.inr (.inl (some (34, 0))))), (1, .inl f), (2, .inl i)] [.inl r3, .inl (r1 + 1), .inl (7 * f), .inr (.inr (.inl (some (34, 0))))] _ _ _
  refine ww_go 1 (pc' := 27) (L' := [(3, .inl r1), (0, .inr (.inr (.inl (some (34, 0))))), (1, .inl f), (2, .inl i)]) (st' := [.inl ((r1 + 1) + r3), .inl (7 * f), .inr (.inr (.inl (some (34, 0))))]) (m' := m) (o := none) rfl trivial ?_
  refine ww_call (vs := [.inr (.inr (.inl (some (34, 0)))), .inl (7 * f), .inl ((r1 + 1) + r3)]) (r := []) (p := 0 < 1) rfl rfl rfl rfl (show 0 < 1 from by omega) (zs185 (c := c) (by omega) (7 * f) ((r1 + 1) + r3) hG (by omega)) ?_
  rintro _ _ _ ⟨r6, rfl, rfl, rfl, hr7⟩
  show wW (zK sc) zM245 30 [(3, .inl r1), (0, .inr (.inr (.inl (some (34, 0))))), (1, .inl f), (2, .inl i)] [.inl r6] _ _ _
  exact ww_rI rfl rfl ⟨_, rfl, rfl, rfl, by omega⟩
set_option maxRecDepth 8000 in
theorem zs203_l16 {sc : xSc} {n : Nat × Nat} {m : wm} {c : Int} (hc : 0 ≤ c ∧ c ≤ 1000000) (f : Int) (i : Int) (x : Int) (hG : zB c m) (h0 : 0 ≤ f ∧ f ≤ 7 ∧ 1 ≤ i ∧ i ≤ x ∧ x ≤ 6) (hM : zMF x (zby m f)) : ∀ (d : Nat), ∀ (a : Int) (v : Int64) (k : Int), (8 - k).toNat = d → (6 ≤ a ∧ a ≤ 96 ∧ 0 ≤ k ∧ k ≤ 8) →  wW (zK sc) zM203 16 [(0, .inr (.inr (.inl (some (34, 0))))), (1, .inl f), (3, .inl a), (4, .inr (.inl v)), (6, .inl k)] [] n m (wr (fun vv n1 m1 => ∃ r : Int64, vv = some (.inr (.inl r)) ∧ n = n1 ∧ m = m1 ∧ True)) := by
  intro d
  induction d using Nat.strongRecOn with
  | ind d ih =>
    intro a v k hd hi
    refine ww_go 2 (pc' := 20) (L' := [(0, .inr (.inr (.inl (some (34, 0))))), (1, .inl f), (3, .inl a), (4, .inr (.inl v)), (6, .inl k)]) (st' := [.inl 8, .inl k]) (m' := m) (o := none) rfl trivial ?_
    refine ww_ic (t := 50) rfl rfl (by omega) (fun (h1 : 8 ≤ k) => ?_) (fun (h1 : ¬ (8 ≤ k)) => ?_)
    · show wW (zK sc) zM203 50 [(0, .inr (.inr (.inl (some (34, 0))))), (1, .inl f), (3, .inl a), (4, .inr (.inl v)), (6, .inl k)] [] _ _ _
      refine ww_go 1 (pc' := 52) (L' := [(0, .inr (.inr (.inl (some (34, 0))))), (1, .inl f), (3, .inl a), (4, .inr (.inl v)), (6, .inl k)]) (st' := [.inr (.inl v)]) (m' := m) (o := none) rfl trivial ?_
      exact ww_rL rfl rfl ⟨_, rfl, rfl, rfl, by trivial⟩
    · show wW (zK sc) zM203 23 [(0, .inr (.inr (.inl (some (34, 0))))), (1, .inl f), (3, .inl a), (4, .inr (.inl v)), (6, .inl k)] [] _ _ _
      refine ww_go 10 (pc' := 37) (L' := [(0, .inr (.inr (.inl (some (34, 0))))), (1, .inl f), (3, .inl a), (4, .inr (.inl v)), (6, .inl k)]) (st' := [.inl (a + k), .inl (7 * f), .inr (.inr (.inl (some (34, 0)))), .inr (.inl (v <<< (wi2l 8 &&& 63)))]) (m' := m) (o := none) rfl trivial ?_
      refine ww_call (vs := [.inr (.inr (.inl (some (34, 0)))), .inl (7 * f), .inl (a + k)]) (r := [.inr (.inl (v <<< (wi2l 8 &&& 63)))]) (p := 0 < 1) rfl rfl rfl rfl (show 0 < 1 from by omega) (zs185 (c := c) (by omega) (7 * f) (a + k) hG (by omega)) ?_
      rintro _ _ _ ⟨r2, rfl, rfl, rfl, hr3⟩
      show wW (zK sc) zM203 40 [(0, .inr (.inr (.inl (some (34, 0))))), (1, .inl f), (3, .inl a), (4, .inr (.inl v)), (6, .inl k)] [.inl r2, .inr (.inl (v <<< (wi2l 8 &&& 63)))] _ _ _
      refine ww_go 5 (pc' := 16) (L' := [(6, .inl (k + 1)), (4, .inr (.inl ((v <<< (wi2l 8 &&& 63)) ||| (wi2l r2)))), (0, .inr (.inr (.inl (some (34, 0))))), (1, .inl f), (3, .inl a)]) (st' := []) (m' := m) (o := none) rfl trivial ?_
      refine ww_sub (L := [(0, .inr (.inr (.inl (some (34, 0))))), (1, .inl f), (3, .inl a), (4, .inr (.inl ((v <<< (wi2l 8 &&& 63)) ||| (wi2l r2)))), (6, .inl (k + 1))]) ⟨rfl, rfl, rfl, rfl, rfl, trivial⟩ rfl rfl ?_
      exact (ih _ (by omega)) a ((v <<< (wi2l 8 &&& 63)) ||| (wi2l r2)) (k + 1) rfl (by omega)
set_option maxRecDepth 8000 in
/-- Mo.hashTold -/
theorem zs203 {sc : xSc} {n : Nat × Nat} {m : wm} {c : Int} (hc : 0 ≤ c ∧ c ≤ 1000000) (f : Int) (i : Int) (x : Int) (hG : zB c m) (h0 : 0 ≤ f ∧ f ≤ 7 ∧ 1 ≤ i ∧ i ≤ x ∧ x ≤ 6) (hM : zMF x (zby m f)) : wX (zK sc) 203 [.inr (.inr (.inl (some (34, 0)))), .inl f, .inl i] n m (wr (fun vv n1 m1 => ∃ r : Int64, vv = some (.inr (.inl r)) ∧ n = n1 ∧ m = m1 ∧ True)) := by
  refine wX_of (N := zM203) rfl (Nat.le_of_ble_eq_true rfl) ?_
  show wW (zK sc) zM203 0 [(0, .inr (.inr (.inl (some (34, 0))))), (1, .inl f), (2, .inl i)] [] n m _
  refine ww_go 3 (pc' := 3) (L' := [(0, .inr (.inr (.inl (some (34, 0))))), (1, .inl f), (2, .inl i)]) (st' := [.inl i, .inl f, .inr (.inr (.inl (some (34, 0))))]) (m' := m) (o := none) rfl trivial ?_
  refine ww_call (vs := [.inr (.inr (.inl (some (34, 0)))), .inl f, .inl i]) (r := []) (p := 0 < 1) rfl rfl rfl rfl (show 0 < 1 from by omega) (zs249 (c := c) (by omega) f i _ hG (by omega) hM) ?_
  rintro _ _ _ ⟨r1, rfl, rfl, rfl, hr2⟩
  have z3 := zMF_ge (i := i) hM (by omega)
  show wW (zK sc) zM203 6 [(0, .inr (.inr (.inl (some (34, 0))))), (1, .inl f), (2, .inl i)] [.inl r1] _ _ _
  refine ww_go 7 (pc' := 16) (L' := [(6, .inl 0), (4, .inr (.inl (Int64.ofNat 0))), (3, .inl (r1 - 8)), (0, .inr (.inr (.inl (some (34, 0))))), (1, .inl f), (2, .inl i)]) (st' := []) (m' := m) (o := none) rfl trivial ?_
  refine ww_sub (L := [(0, .inr (.inr (.inl (some (34, 0))))), (1, .inl f), (3, .inl (r1 - 8)), (4, .inr (.inl (Int64.ofNat 0))), (6, .inl 0)]) ⟨rfl, rfl, rfl, rfl, rfl, trivial⟩ rfl rfl ?_
  exact (zs203_l16 hc f i x hG h0 hM _) (r1 - 8) (Int64.ofNat 0) 0 rfl (by omega)
set_option maxRecDepth 8000 in
theorem zs189_l33 {sc : xSc} {n : Nat × Nat} {m0 : wm} {c : Int} (hc : 0 ≤ c ∧ c ≤ 1000000) (f : Int) (i : Int) (hG : zB c m0) (hR : zRI m0) (h0 : 0 ≤ f ∧ f ≤ 7 ∧ 1 ≤ i ∧ i ≤ 6 ∧ m0.1 51 0 f.toNat = 1) : ∀ (d : Nat), ∀ (v : Int64) (k : Int), (104 - k).toNat = d → (0 ≤ k ∧ k ≤ 104) → (m0.1 51 0 f.toNat = 1 ∧ 0 ≤ m0.1 54 0 ((7 * f + i).toNat) ∧ m0.1 55 0 ((2 * (7 * f + i)).toNat) = 1 ∧ m0.1 57 0 ((7 * f + i).toNat) ≠ 1) →  wW (zK sc) zM189 33 [(0, .inr (.inr (.inl (some (34, 0))))), (1, .inl f), (2, .inl i), (3, .inl (7 * f + i)), (4, .inr (.inl v)), (6, .inl k)] [] n m0 (wr (fun vv n1 m1 => vv = none ∧ n = n1 ∧ zB c m1 ∧ zfr (fun k i j => (k = 58) ∨ (k = 59) ∨ (k = 60) ∨ (k = 61) ∨ (k = 34 ∧ j = 30) ∨ (k = 54) ∨ (k = 55) ∨ (k = 57)) m0 m1 ∧ (zRI m1 ∧ (True)))) := by
  intro d
  induction d using Nat.strongRecOn with
  | ind d ih =>
    intro v k hd hi hp
    have bz : -1 ≤ m0.1 54 0 ((7 * f + i).toNat) ∧ m0.1 54 0 ((7 * f + i).toNat) ≤ 104 := hG.1 54 _ rfl _ _
    have bc : 0 ≤ m0.1 52 0 f.toNat ∧ m0.1 52 0 f.toNat ≤ 6 := hG.1 52 _ rfl _ _
    have hF : zfr (fun k i j => (k = 58) ∨ (k = 59) ∨ (k = 60) ∨ (k = 61) ∨ (k = 34 ∧ j = 30) ∨ (k = 54) ∨ (k = 55) ∨ (k = 57)) m0 m0 := zfr_rf
    have b1 : (-1) ≤ m0.1 54 0 ((7 * f + i).toNat) ∧ m0.1 54 0 ((7 * f + i).toNat) ≤ 104 := hG.1 54 _ rfl _ _
    refine ww_go 5 (pc' := 41) (L' := [(0, .inr (.inr (.inl (some (34, 0))))), (1, .inl f), (2, .inl i), (3, .inl (7 * f + i)), (4, .inr (.inl v)), (6, .inl k)]) (st' := [.inl (m0.1 54 0 ((7 * f + i).toNat)), .inl k]) (m' := m0) (o := some ((0 < 1) ∧ (0 < 1 ∧ 0 ≤ 7 * f + i ∧ 7 * f + i < ((56 : Nat) : Int)))) rfl (show (0 < 1) ∧ (0 < 1 ∧ 0 ≤ 7 * f + i ∧ 7 * f + i < ((56 : Nat) : Int)) from by omega) ?_
    refine ww_ic (t := 64) rfl rfl (by omega) (fun (h2 : m0.1 54 0 ((7 * f + i).toNat) ≤ k) => ?_) (fun (h2 : ¬ (m0.1 54 0 ((7 * f + i).toNat) ≤ k)) => ?_)
    · show wW (zK sc) zM189 64 [(0, .inr (.inr (.inl (some (34, 0))))), (1, .inl f), (2, .inl i), (3, .inl (7 * f + i)), (4, .inr (.inl v)), (6, .inl k)] [] _ _ _
      have b3 : 0 ≤ m0.1 52 0 f.toNat ∧ m0.1 52 0 f.toNat ≤ 6 := hG.1 52 _ rfl _ _
      refine ww_go 5 (pc' := 71) (L' := [(0, .inr (.inr (.inl (some (34, 0))))), (1, .inl f), (2, .inl i), (3, .inl (7 * f + i)), (4, .inr (.inl v)), (6, .inl k)]) (st' := [.inl (m0.1 52 0 f.toNat), .inl i]) (m' := m0) (o := some ((0 < 1) ∧ (0 < 1 ∧ 0 ≤ f ∧ f < ((8 : Nat) : Int)))) rfl (show (0 < 1) ∧ (0 < 1 ∧ 0 ≤ f ∧ f < ((8 : Nat) : Int)) from by omega) ?_
      refine ww_ic (t := 111) rfl rfl (by omega) (fun (h4 : m0.1 52 0 f.toNat < i) => ?_) (fun (h4 : ¬ (m0.1 52 0 f.toNat < i)) => ?_)
      · show wW (zK sc) zM189 111 [(0, .inr (.inr (.inl (some (34, 0))))), (1, .inl f), (2, .inl i), (3, .inl (7 * f + i)), (4, .inr (.inl v)), (6, .inl k)] [] _ _ _
        refine ww_go 2 (pc' := 113) (L' := [(0, .inr (.inr (.inl (some (34, 0))))), (1, .inl f), (2, .inl i), (3, .inl (7 * f + i)), (4, .inr (.inl v)), (6, .inl k)]) (st' := [.inl (7 * f + i), .inr (.inr (.inl (some (34, 0))))]) (m' := m0) (o := none) rfl trivial ?_
        refine ww_call (vs := [.inr (.inr (.inl (some (34, 0)))), .inl (7 * f + i)]) (r := []) (p := 0 < 1) rfl rfl rfl rfl (show 0 < 1 from by omega) (zs199 (c := c) (by omega) (7 * f + i) hG (by omega)) ?_
        rintro _ _ m7 ⟨rfl, rfl, hGm7, hEm7, hr6⟩
        have hFm7 : zfr (fun k i j => (k = 58) ∨ (k = 59) ∨ (k = 60) ∨ (k = 61) ∨ (k = 34 ∧ j = 30) ∨ (k = 54) ∨ (k = 55) ∨ (k = 57)) m0 m7 := zfr_tr hF hEm7 (fun k i j z => Or.elim z (fun z => Or.inl z) (fun z => Or.elim z (fun z => Or.inr (Or.inl z)) (fun z => Or.elim z (fun z => Or.inr (Or.inr (Or.inl z))) (fun z => Or.elim z (fun z => Or.inr (Or.inr (Or.inr (Or.inl z)))) (fun z => Or.elim z (fun z => Or.inr (Or.inr (Or.inr (Or.inr (Or.inl z))))) (fun z => Or.elim z (fun z => Or.inr (Or.inr (Or.inr (Or.inr (Or.inr (Or.inl z)))))) (fun z => Or.elim z (fun z => Or.inr (Or.inr (Or.inr (Or.inr (Or.inr (Or.inr (Or.inl z))))))) (fun z => Or.inr (Or.inr (Or.inr (Or.inr (Or.inr (Or.inr (Or.inr (z)))))))))))))))
        have hRm7 : zRI m7 := zRI_fg (p := f) (i := i) hR (zB_ct hG) (by omega) (by omega) (by omega) (by omega) hr6 (by funext j; exact (hEm7 51 0 j (show ¬ ((51 = 58) ∨ (51 = 59) ∨ (51 = 60) ∨ (51 = 61) ∨ (51 = 34 ∧ j = 30) ∨ (51 = 54) ∨ (51 = 55) ∨ (51 = 57)) from by omega)).1) (by funext j; exact (hEm7 52 0 j (show ¬ ((52 = 58) ∨ (52 = 59) ∨ (52 = 60) ∨ (52 = 61) ∨ (52 = 34 ∧ j = 30) ∨ (52 = 54) ∨ (52 = 55) ∨ (52 = 57)) from by omega)).1) (by funext j; exact (hEm7 53 0 j (show ¬ ((53 = 58) ∨ (53 = 59) ∨ (53 = 60) ∨ (53 = 61) ∨ (53 = 34 ∧ j = 30) ∨ (53 = 54) ∨ (53 = 55) ∨ (53 = 57)) from by omega)).1) (by funext j; exact (hEm7 56 0 j (show ¬ ((56 = 58) ∨ (56 = 59) ∨ (56 = 60) ∨ (56 = 61) ∨ (56 = 34 ∧ j = 30) ∨ (56 = 54) ∨ (56 = 55) ∨ (56 = 57)) from by omega)).1) (Or.inl (by omega)) (Or.inl (by omega))
        show wW (zK sc) zM189 116 [(0, .inr (.inr (.inl (some (34, 0))))), (1, .inl f), (2, .inl i), (3, .inl (7 * f + i)), (4, .inr (.inl v)), (6, .inl k)] [] _ _ _
        exact ww_rV rfl rfl ⟨rfl, rfl, zB_mono hGm7 (by omega), hFm7, ⟨hRm7, by trivial⟩⟩
      · show wW (zK sc) zM189 74 [(0, .inr (.inr (.inl (some (34, 0))))), (1, .inl f), (2, .inl i), (3, .inl (7 * f + i)), (4, .inr (.inl v)), (6, .inl k)] [] _ _ _
        have b8 : (-1) ≤ m0.1 54 0 ((7 * f + i).toNat) ∧ m0.1 54 0 ((7 * f + i).toNat) ≤ 104 := hG.1 54 _ rfl _ _
        refine ww_go 7 (pc' := 83) (L' := [(0, .inr (.inr (.inl (some (34, 0))))), (1, .inl f), (2, .inl i), (3, .inl (7 * f + i)), (4, .inr (.inl v)), (6, .inl k)]) (st' := [.inl i, .inl f, .inr (.inr (.inl (some (34, 0)))), .inl (m0.1 54 0 ((7 * f + i).toNat))]) (m' := m0) (o := some ((0 < 1) ∧ (0 < 1 ∧ 0 ≤ 7 * f + i ∧ 7 * f + i < ((56 : Nat) : Int)))) rfl (show (0 < 1) ∧ (0 < 1 ∧ 0 ≤ 7 * f + i ∧ 7 * f + i < ((56 : Nat) : Int)) from by omega) ?_
        refine ww_call (vs := [.inr (.inr (.inl (some (34, 0)))), .inl f, .inl i]) (r := [.inl (m0.1 54 0 ((7 * f + i).toNat))]) (p := 0 < 1) rfl rfl rfl rfl (show 0 < 1 from by omega) (zs245 (c := c) (by omega) f i _ hG (by omega) (zRI_mf hR (by omega) (by omega))) ?_
        rintro _ _ _ ⟨r9, rfl, rfl, rfl, hr10⟩
        show wW (zK sc) zM189 86 [(0, .inr (.inr (.inl (some (34, 0))))), (1, .inl f), (2, .inl i), (3, .inl (7 * f + i)), (4, .inr (.inl v)), (6, .inl k)] [.inl r9, .inl (m0.1 54 0 ((7 * f + i).toNat))] _ _ _
        refine ww_ic (t := 111) rfl rfl (by omega) (fun (h11 : m0.1 54 0 ((7 * f + i).toNat) ≠ r9) => ?_) (fun (h11 : ¬ (m0.1 54 0 ((7 * f + i).toNat) ≠ r9)) => ?_)
        · show wW (zK sc) zM189 111 [(0, .inr (.inr (.inl (some (34, 0))))), (1, .inl f), (2, .inl i), (3, .inl (7 * f + i)), (4, .inr (.inl v)), (6, .inl k)] [] _ _ _
          refine ww_go 2 (pc' := 113) (L' := [(0, .inr (.inr (.inl (some (34, 0))))), (1, .inl f), (2, .inl i), (3, .inl (7 * f + i)), (4, .inr (.inl v)), (6, .inl k)]) (st' := [.inl (7 * f + i), .inr (.inr (.inl (some (34, 0))))]) (m' := m0) (o := none) rfl trivial ?_
          refine ww_call (vs := [.inr (.inr (.inl (some (34, 0)))), .inl (7 * f + i)]) (r := []) (p := 0 < 1) rfl rfl rfl rfl (show 0 < 1 from by omega) (zs199 (c := c) (by omega) (7 * f + i) hG (by omega)) ?_
          rintro _ _ m14 ⟨rfl, rfl, hGm14, hEm14, hr13⟩
          have hFm14 : zfr (fun k i j => (k = 58) ∨ (k = 59) ∨ (k = 60) ∨ (k = 61) ∨ (k = 34 ∧ j = 30) ∨ (k = 54) ∨ (k = 55) ∨ (k = 57)) m0 m14 := zfr_tr hF hEm14 (fun k i j z => Or.elim z (fun z => Or.inl z) (fun z => Or.elim z (fun z => Or.inr (Or.inl z)) (fun z => Or.elim z (fun z => Or.inr (Or.inr (Or.inl z))) (fun z => Or.elim z (fun z => Or.inr (Or.inr (Or.inr (Or.inl z)))) (fun z => Or.elim z (fun z => Or.inr (Or.inr (Or.inr (Or.inr (Or.inl z))))) (fun z => Or.elim z (fun z => Or.inr (Or.inr (Or.inr (Or.inr (Or.inr (Or.inl z)))))) (fun z => Or.elim z (fun z => Or.inr (Or.inr (Or.inr (Or.inr (Or.inr (Or.inr (Or.inl z))))))) (fun z => Or.inr (Or.inr (Or.inr (Or.inr (Or.inr (Or.inr (Or.inr (z)))))))))))))))
          have hRm14 : zRI m14 := zRI_fg (p := f) (i := i) hR (zB_ct hG) (by omega) (by omega) (by omega) (by omega) hr13 (by funext j; exact (hEm14 51 0 j (show ¬ ((51 = 58) ∨ (51 = 59) ∨ (51 = 60) ∨ (51 = 61) ∨ (51 = 34 ∧ j = 30) ∨ (51 = 54) ∨ (51 = 55) ∨ (51 = 57)) from by omega)).1) (by funext j; exact (hEm14 52 0 j (show ¬ ((52 = 58) ∨ (52 = 59) ∨ (52 = 60) ∨ (52 = 61) ∨ (52 = 34 ∧ j = 30) ∨ (52 = 54) ∨ (52 = 55) ∨ (52 = 57)) from by omega)).1) (by funext j; exact (hEm14 53 0 j (show ¬ ((53 = 58) ∨ (53 = 59) ∨ (53 = 60) ∨ (53 = 61) ∨ (53 = 34 ∧ j = 30) ∨ (53 = 54) ∨ (53 = 55) ∨ (53 = 57)) from by omega)).1) (by funext j; exact (hEm14 56 0 j (show ¬ ((56 = 58) ∨ (56 = 59) ∨ (56 = 60) ∨ (56 = 61) ∨ (56 = 34 ∧ j = 30) ∨ (56 = 54) ∨ (56 = 55) ∨ (56 = 57)) from by omega)).1) (Or.inl (by omega)) (Or.inl (by omega))
          show wW (zK sc) zM189 116 [(0, .inr (.inr (.inl (some (34, 0))))), (1, .inl f), (2, .inl i), (3, .inl (7 * f + i)), (4, .inr (.inl v)), (6, .inl k)] [] _ _ _
          exact ww_rV rfl rfl ⟨rfl, rfl, zB_mono hGm14 (by omega), hFm14, ⟨hRm14, by trivial⟩⟩
        · show wW (zK sc) zM189 89 [(0, .inr (.inr (.inl (some (34, 0))))), (1, .inl f), (2, .inl i), (3, .inl (7 * f + i)), (4, .inr (.inl v)), (6, .inl k)] [] _ _ _
          refine ww_go 4 (pc' := 94) (L' := [(0, .inr (.inr (.inl (some (34, 0))))), (1, .inl f), (2, .inl i), (3, .inl (7 * f + i)), (4, .inr (.inl v)), (6, .inl k)]) (st' := [.inl i, .inl f, .inr (.inr (.inl (some (34, 0)))), .inr (.inl v)]) (m' := m0) (o := none) rfl trivial ?_
          refine ww_call (vs := [.inr (.inr (.inl (some (34, 0)))), .inl f, .inl i]) (r := [.inr (.inl v)]) (p := 0 < 1) rfl rfl rfl rfl (show 0 < 1 from by omega) (zs203 (c := c) (by omega) f i _ hG (by omega) (zRI_mf hR (by omega) (by omega))) ?_
          rintro _ _ _ ⟨r15, rfl, rfl, rfl, hr16⟩
          show wW (zK sc) zM189 97 [(0, .inr (.inr (.inl (some (34, 0))))), (1, .inl f), (2, .inl i), (3, .inl (7 * f + i)), (4, .inr (.inl v)), (6, .inl k)] [.inr (.inl r15), .inr (.inl v)] _ _ _
          have t17 := wlcmp_rg v r15
          refine ww_go 1 (pc' := 98) (L' := [(0, .inr (.inr (.inl (some (34, 0))))), (1, .inl f), (2, .inl i), (3, .inl (7 * f + i)), (4, .inr (.inl v)), (6, .inl k)]) (st' := [.inl (wlcmp v r15)]) (m' := m0) (o := none) rfl trivial ?_
          refine ww_if (t := 111) rfl rfl (by omega) (fun (h18 : wlcmp v r15 ≠ 0) => ?_) (fun (h18 : ¬ (wlcmp v r15 ≠ 0)) => ?_)
          · show wW (zK sc) zM189 111 [(0, .inr (.inr (.inl (some (34, 0))))), (1, .inl f), (2, .inl i), (3, .inl (7 * f + i)), (4, .inr (.inl v)), (6, .inl k)] [] _ _ _
            refine ww_go 2 (pc' := 113) (L' := [(0, .inr (.inr (.inl (some (34, 0))))), (1, .inl f), (2, .inl i), (3, .inl (7 * f + i)), (4, .inr (.inl v)), (6, .inl k)]) (st' := [.inl (7 * f + i), .inr (.inr (.inl (some (34, 0))))]) (m' := m0) (o := none) rfl trivial ?_
            refine ww_call (vs := [.inr (.inr (.inl (some (34, 0)))), .inl (7 * f + i)]) (r := []) (p := 0 < 1) rfl rfl rfl rfl (show 0 < 1 from by omega) (zs199 (c := c) (by omega) (7 * f + i) hG (by omega)) ?_
            rintro _ _ m21 ⟨rfl, rfl, hGm21, hEm21, hr20⟩
            have hFm21 : zfr (fun k i j => (k = 58) ∨ (k = 59) ∨ (k = 60) ∨ (k = 61) ∨ (k = 34 ∧ j = 30) ∨ (k = 54) ∨ (k = 55) ∨ (k = 57)) m0 m21 := zfr_tr hF hEm21 (fun k i j z => Or.elim z (fun z => Or.inl z) (fun z => Or.elim z (fun z => Or.inr (Or.inl z)) (fun z => Or.elim z (fun z => Or.inr (Or.inr (Or.inl z))) (fun z => Or.elim z (fun z => Or.inr (Or.inr (Or.inr (Or.inl z)))) (fun z => Or.elim z (fun z => Or.inr (Or.inr (Or.inr (Or.inr (Or.inl z))))) (fun z => Or.elim z (fun z => Or.inr (Or.inr (Or.inr (Or.inr (Or.inr (Or.inl z)))))) (fun z => Or.elim z (fun z => Or.inr (Or.inr (Or.inr (Or.inr (Or.inr (Or.inr (Or.inl z))))))) (fun z => Or.inr (Or.inr (Or.inr (Or.inr (Or.inr (Or.inr (Or.inr (z)))))))))))))))
            have hRm21 : zRI m21 := zRI_fg (p := f) (i := i) hR (zB_ct hG) (by omega) (by omega) (by omega) (by omega) hr20 (by funext j; exact (hEm21 51 0 j (show ¬ ((51 = 58) ∨ (51 = 59) ∨ (51 = 60) ∨ (51 = 61) ∨ (51 = 34 ∧ j = 30) ∨ (51 = 54) ∨ (51 = 55) ∨ (51 = 57)) from by omega)).1) (by funext j; exact (hEm21 52 0 j (show ¬ ((52 = 58) ∨ (52 = 59) ∨ (52 = 60) ∨ (52 = 61) ∨ (52 = 34 ∧ j = 30) ∨ (52 = 54) ∨ (52 = 55) ∨ (52 = 57)) from by omega)).1) (by funext j; exact (hEm21 53 0 j (show ¬ ((53 = 58) ∨ (53 = 59) ∨ (53 = 60) ∨ (53 = 61) ∨ (53 = 34 ∧ j = 30) ∨ (53 = 54) ∨ (53 = 55) ∨ (53 = 57)) from by omega)).1) (by funext j; exact (hEm21 56 0 j (show ¬ ((56 = 58) ∨ (56 = 59) ∨ (56 = 60) ∨ (56 = 61) ∨ (56 = 34 ∧ j = 30) ∨ (56 = 54) ∨ (56 = 55) ∨ (56 = 57)) from by omega)).1) (Or.inl (by omega)) (Or.inl (by omega))
            show wW (zK sc) zM189 116 [(0, .inr (.inr (.inl (some (34, 0))))), (1, .inl f), (2, .inl i), (3, .inl (7 * f + i)), (4, .inr (.inl v)), (6, .inl k)] [] _ _ _
            exact ww_rV rfl rfl ⟨rfl, rfl, zB_mono hGm21 (by omega), hFm21, ⟨hRm21, by trivial⟩⟩
          · show wW (zK sc) zM189 101 [(0, .inr (.inr (.inl (some (34, 0))))), (1, .inl f), (2, .inl i), (3, .inl (7 * f + i)), (4, .inr (.inl v)), (6, .inl k)] [] _ _ _
            refine ww_go 5 (pc' := 108) (L' := [(0, .inr (.inr (.inl (some (34, 0))))), (1, .inl f), (2, .inl i), (3, .inl (7 * f + i)), (4, .inr (.inl v)), (6, .inl k)]) (st' := []) (m' := wuI m0 57 0 ((7 * f + i).toNat) 1) (o := some ((0 < 1) ∧ (0 < 1 ∧ 0 ≤ 7 * f + i ∧ 7 * f + i < ((56 : Nat) : Int) ∧ 0 ≤ (1 : Int) ∧ (1 : Int) ≤ 1))) rfl (show (0 < 1) ∧ (0 < 1 ∧ 0 ≤ 7 * f + i ∧ 7 * f + i < ((56 : Nat) : Int) ∧ 0 ≤ (1 : Int) ∧ (1 : Int) ≤ 1) from by omega) ?_
            obtain ⟨m22, hm22⟩ : ∃ zq9 : wm, zq9 = wuI m0 57 0 ((7 * f + i).toNat) 1 := ⟨_, rfl⟩
            rw [← hm22]
            have hGm22 : zB c m22 := by rw [hm22]; exact zB_wI rfl (show 0 ≤ (1 : Int) ∧ (1 : Int) ≤ 1 from by omega) hG
            have hFm22 : zfr (fun k i j => (k = 58) ∨ (k = 59) ∨ (k = 60) ∨ (k = 61) ∨ (k = 34 ∧ j = 30) ∨ (k = 54) ∨ (k = 55) ∨ (k = 57)) m0 m22 := by rw [hm22]; exact zfr_wI hF (show (57 = 58) ∨ (57 = 59) ∨ (57 = 60) ∨ (57 = 61) ∨ (57 = 34 ∧ ((7 * f + i).toNat) = 30) ∨ (57 = 54) ∨ (57 = 55) ∨ (57 = 57) from Or.inr (Or.inr (Or.inr (Or.inr (Or.inr (Or.inr (Or.inr (rfl))))))))
            have s23 : m22.1 57 0 ((7 * f + i).toNat) = (1 : Int) := by rw [hm22]; exact wuI_self
            have hRm22 : zRI m22 := by rw [hm22]; exact zRI_w57 (p := f) (i := i) hR (by omega) (by omega)
            refine ww_go 1 (pc' := 116) (L' := [(0, .inr (.inr (.inl (some (34, 0))))), (1, .inl f), (2, .inl i), (3, .inl (7 * f + i)), (4, .inr (.inl v)), (6, .inl k)]) (st' := []) (m' := m22) (o := none) rfl trivial ?_
            exact ww_rV rfl rfl ⟨rfl, rfl, zB_mono hGm22 (by omega), hFm22, ⟨hRm22, by trivial⟩⟩
    · show wW (zK sc) zM189 44 [(0, .inr (.inr (.inl (some (34, 0))))), (1, .inl f), (2, .inl i), (3, .inl (7 * f + i)), (4, .inr (.inl v)), (6, .inl k)] [] _ _ _
      refine ww_go 4 (pc' := 50) (L' := [(0, .inr (.inr (.inl (some (34, 0))))), (1, .inl f), (2, .inl i), (3, .inl (7 * f + i)), (4, .inr (.inl v)), (6, .inl k)]) (st' := [.inl k, .inl (7 * f + i), .inr (.inr (.inl (some (34, 0)))), .inr (.inl v)]) (m' := m0) (o := none) rfl trivial ?_
      refine ww_call (vs := [.inr (.inr (.inl (some (34, 0)))), .inl (7 * f + i), .inl k]) (r := [.inr (.inl v)]) (p := 0 < 1) rfl rfl rfl rfl (show 0 < 1 from by omega) (zs185 (c := c) (by omega) (7 * f + i) k hG (by omega)) ?_
      rintro _ _ _ ⟨r24, rfl, rfl, rfl, hr25⟩
      show wW (zK sc) zM189 53 [(0, .inr (.inr (.inl (some (34, 0))))), (1, .inl f), (2, .inl i), (3, .inl (7 * f + i)), (4, .inr (.inl v)), (6, .inl k)] [.inl r24, .inr (.inl v)] _ _ _
      refine ww_call (vs := [.inr (.inl v), .inl r24]) (r := []) (p := True) rfl rfl rfl rfl trivial (zs223 v r24) ?_
      rintro _ _ _ ⟨r26, rfl, rfl, rfl, hr27⟩
      show wW (zK sc) zM189 56 [(0, .inr (.inr (.inl (some (34, 0))))), (1, .inl f), (2, .inl i), (3, .inl (7 * f + i)), (4, .inr (.inl v)), (6, .inl k)] [.inr (.inl r26)] _ _ _
      refine ww_go 3 (pc' := 33) (L' := [(6, .inl (k + 1)), (4, .inr (.inl r26)), (0, .inr (.inr (.inl (some (34, 0))))), (1, .inl f), (2, .inl i), (3, .inl (7 * f + i))]) (st' := []) (m' := m0) (o := none) rfl trivial ?_
      refine ww_sub (L := [(0, .inr (.inr (.inl (some (34, 0))))), (1, .inl f), (2, .inl i), (3, .inl (7 * f + i)), (4, .inr (.inl r26)), (6, .inl (k + 1))]) ⟨rfl, rfl, rfl, rfl, rfl, rfl, trivial⟩ rfl rfl ?_
      exact (ih _ (by omega)) r26 (k + 1) rfl (by omega) (by omega)
set_option maxRecDepth 8000 in
/-- Mo.compare -/
theorem zs189 {sc : xSc} {n : Nat × Nat} {m0 : wm} {c : Int} (hc : 0 ≤ c ∧ c ≤ 1000000) (f : Int) (i : Int) (hG : zB c m0) (hR : zRI m0) (h0 : 0 ≤ f ∧ f ≤ 7 ∧ 1 ≤ i ∧ i ≤ 6 ∧ m0.1 51 0 f.toNat = 1) : wX (zK sc) 189 [.inr (.inr (.inl (some (34, 0)))), .inl f, .inl i] n m0 (wr (fun vv n1 m1 => vv = none ∧ n = n1 ∧ zB c m1 ∧ zfr (fun k i j => (k = 58) ∨ (k = 59) ∨ (k = 60) ∨ (k = 61) ∨ (k = 34 ∧ j = 30) ∨ (k = 54) ∨ (k = 55) ∨ (k = 57)) m0 m1 ∧ (zRI m1 ∧ (True)))) := by
  refine wX_of (N := zM189) rfl (Nat.le_of_ble_eq_true rfl) ?_
  show wW (zK sc) zM189 0 [(0, .inr (.inr (.inl (some (34, 0))))), (1, .inl f), (2, .inl i)] [] n m0 _
  have hF : zfr (fun k i j => (k = 58) ∨ (k = 59) ∨ (k = 60) ∨ (k = 61) ∨ (k = 34 ∧ j = 30) ∨ (k = 54) ∨ (k = 55) ∨ (k = 57)) m0 m0 := zfr_rf
  have bz : -1 ≤ m0.1 54 0 ((7 * f + i).toNat) ∧ m0.1 54 0 ((7 * f + i).toNat) ≤ 104 := hG.1 54 _ rfl _ _
  have bc : 0 ≤ m0.1 52 0 f.toNat ∧ m0.1 52 0 f.toNat ≤ 6 := hG.1 52 _ rfl _ _
  refine ww_go 8 (pc' := 9) (L' := [(3, .inl ((7 * f) + i)), (0, .inr (.inr (.inl (some (34, 0))))), (1, .inl f), (2, .inl i)]) (st' := [.inl ((7 * f) + i), .inr (.inr (.inl (some (34, 0))))]) (m' := m0) (o := none) rfl trivial ?_
  refine ww_call (vs := [.inr (.inr (.inl (some (34, 0)))), .inl ((7 * f) + i)]) (r := []) (p := 0 < 1) rfl rfl rfl rfl (show 0 < 1 from by omega) (zs209 (c := c) (by omega) ((7 * f) + i) hG (by omega)) ?_
  rintro _ _ _ ⟨r1, rfl, rfl, rfl, hr2⟩
  show wW (zK sc) zM189 12 [(3, .inl ((7 * f) + i)), (0, .inr (.inr (.inl (some (34, 0))))), (1, .inl f), (2, .inl i)] [.inl r1] _ _ _
  refine ww_if (t := 24) rfl rfl (by omega) (fun (h3 : r1 = 0) => ?_) (fun (h3 : ¬ (r1 = 0)) => ?_)
  · show wW (zK sc) zM189 24 [(3, .inl ((7 * f) + i)), (0, .inr (.inr (.inl (some (34, 0))))), (1, .inl f), (2, .inl i)] [] _ _ _
    exact ww_rV rfl rfl ⟨rfl, rfl, zB_mono hG (by omega), hF, ⟨hR, by trivial⟩⟩
  · show wW (zK sc) zM189 15 [(3, .inl ((7 * f) + i)), (0, .inr (.inr (.inl (some (34, 0))))), (1, .inl f), (2, .inl i)] [] _ _ _
    have b4 : 0 ≤ m0.1 57 0 (((7 * f) + i).toNat) ∧ m0.1 57 0 (((7 * f) + i).toNat) ≤ 1 := hG.1 57 _ rfl _ _
    refine ww_go 4 (pc' := 21) (L' := [(3, .inl ((7 * f) + i)), (0, .inr (.inr (.inl (some (34, 0))))), (1, .inl f), (2, .inl i)]) (st' := [.inl (m0.1 57 0 (((7 * f) + i).toNat))]) (m' := m0) (o := some ((0 < 1) ∧ (0 < 1 ∧ 0 ≤ (7 * f) + i ∧ (7 * f) + i < ((56 : Nat) : Int)))) rfl (show (0 < 1) ∧ (0 < 1 ∧ 0 ≤ (7 * f) + i ∧ (7 * f) + i < ((56 : Nat) : Int)) from by omega) ?_
    refine ww_if (t := 25) rfl rfl (by omega) (fun (h5 : m0.1 57 0 (((7 * f) + i).toNat) = 0) => ?_) (fun (h5 : ¬ (m0.1 57 0 (((7 * f) + i).toNat) = 0)) => ?_)
    · show wW (zK sc) zM189 25 [(3, .inl ((7 * f) + i)), (0, .inr (.inr (.inl (some (34, 0))))), (1, .inl f), (2, .inl i)] [] _ _ _
      refine ww_call (vs := []) (r := []) (p := True) rfl rfl rfl rfl trivial (zs181 ) ?_
      rintro _ _ _ ⟨r6, rfl, rfl, rfl, hr7⟩
      show wW (zK sc) zM189 28 [(3, .inl ((7 * f) + i)), (0, .inr (.inr (.inl (some (34, 0))))), (1, .inl f), (2, .inl i)] [.inr (.inl r6)] _ _ _
      refine ww_go 3 (pc' := 33) (L' := [(6, .inl 0), (4, .inr (.inl r6)), (3, .inl ((7 * f) + i)), (0, .inr (.inr (.inl (some (34, 0))))), (1, .inl f), (2, .inl i)]) (st' := []) (m' := m0) (o := none) rfl trivial ?_
      refine ww_sub (L := [(0, .inr (.inr (.inl (some (34, 0))))), (1, .inl f), (2, .inl i), (3, .inl ((7 * f) + i)), (4, .inr (.inl r6)), (6, .inl 0)]) ⟨rfl, rfl, rfl, rfl, rfl, rfl, trivial⟩ rfl rfl ?_
      exact (zs189_l33 hc f i hG hR h0 _) r6 0 rfl (by omega) (by omega)
    · show wW (zK sc) zM189 24 [(3, .inl ((7 * f) + i)), (0, .inr (.inr (.inl (some (34, 0))))), (1, .inl f), (2, .inl i)] [] _ _ _
      exact ww_rV rfl rfl ⟨rfl, rfl, zB_mono hG (by omega), hF, ⟨hR, by trivial⟩⟩
